/-! ===== exclusive-or, free sets, ranks ===== -/
def md_xo (V : Nat → Int32) (s : Nat) : Nat → Int32
  | 0 => 0
  | e + 1 => if md_bit s e = 1 then md_xo V s e ^^^ V e else md_xo V s e
def md_X (V : Nat → Int32) (s : Nat) : Int32 := md_xo V s 8
def md_fP (V : Nat → Int32) (s p : Nat) : Bool := !(decide (1 ≤ p ∧ md_X V p = 0 ∧ s &&& p = p))
def md_fb (V : Nat → Int32) (s : Nat) : Nat → Bool := md_all (md_fP V s)
def md_fr (V : Nat → Int32) (s : Nat) : Bool := md_fb V s 256
def md_Rc (V : Nat → Int32) (s : Nat) : Nat → Bool := fun p => md_fr V p && decide (s &&& p = p)
def md_R (V : Nat → Int32) (s : Nat) : Nat := md_mx 0 (md_Rc V s) md_sz 256
def md_raP (V : Nat → Int32) (s e : Nat) : Bool := !(decide (md_bit s e = 1) && !md_fr V (s ^^^ 2 ^ e))
def md_ra (V : Nat → Int32) (s : Nat) : Bool := md_all (md_raP V s) 8
theorem md_fr_iff {V : Nat → Int32} {s : Nat} : md_fr V s = true ↔ ∀ p, p < 256 → 1 ≤ p → md_X V p = 0 → ¬ s &&& p = p := by
  have h := md_all_iff (P := md_fP V s) 256
  constructor
  · intro e p hp a b c
    have h1 : (!(decide (1 ≤ p ∧ md_X V p = 0 ∧ s &&& p = p))) = true := h.mp e p hp
    rw [decide_eq_true (⟨a, b, c⟩ : 1 ≤ p ∧ md_X V p = 0 ∧ s &&& p = p)] at h1
    exact absurd h1 (by decide)
  · intro e
    apply h.mpr
    intro p hp
    show (!(decide (1 ≤ p ∧ md_X V p = 0 ∧ s &&& p = p))) = true
    have hd : decide (1 ≤ p ∧ md_X V p = 0 ∧ s &&& p = p) = false := decide_eq_false (fun z => e p hp z.1 z.2.1 z.2.2)
    rw [hd] <;> rfl
theorem md_fr_0 (V : Nat → Int32) : md_fr V 0 = true :=
  md_fr_iff.mpr (fun p _ h1 _ h3 => by rw [Nat.zero_and] at h3; omega)
theorem md_Rc_iff {V : Nat → Int32} {s p : Nat} : md_Rc V s p = true ↔ (md_fr V p = true ∧ s &&& p = p) := by
  show (md_fr V p && decide (s &&& p = p)) = true ↔ _
  rw [Bool.and_eq_true, decide_eq_true_iff]
theorem md_R_ge {V : Nat → Int32} {s p : Nat} (hp : p < 256) (hf : md_fr V p = true) (hs : s &&& p = p) : md_sz p ≤ md_R V s :=
  md_mx_ge (m := 0) (c := md_Rc V s) (v := md_sz) 256 p hp (md_Rc_iff.mpr ⟨hf, hs⟩)
theorem md_R_le {V : Nat → Int32} {s b : Nat} (h : ∀ p, p < 256 → md_fr V p = true → s &&& p = p → md_sz p ≤ b) : md_R V s ≤ b :=
  md_mx_le (m := 0) (c := md_Rc V s) (v := md_sz) (Nat.zero_le b) 256 (fun p hp hc => h p hp (md_Rc_iff.mp hc).1 (md_Rc_iff.mp hc).2)
theorem md_sz0 : md_sz 0 = 0 := by decide +kernel
theorem md_R_ex (V : Nat → Int32) (s : Nat) : ∃ p, p < 256 ∧ md_fr V p = true ∧ s &&& p = p ∧ md_R V s = md_sz p := by
  rcases md_mx_ex (m := 0) (c := md_Rc V s) (v := md_sz) 256 with e | ⟨p, hp, hc, e⟩
  · exact ⟨0, by omega, md_fr_0 V, Nat.and_zero s, e.trans md_sz0.symm⟩
  · exact ⟨p, hp, (md_Rc_iff.mp hc).1, (md_Rc_iff.mp hc).2, e⟩
theorem md_R_mono {V : Nat → Int32} {s t : Nat} (h : s &&& t = t) : md_R V t ≤ md_R V s :=
  md_R_le (fun _ hp hf hs => md_R_ge hp hf (md_sub_trans h hs))
theorem md_R_sz (V : Nat → Int32) (s : Nat) : md_R V s ≤ md_sz s := md_R_le (fun _ _ _ hs => md_sz_le hs)
theorem md_R8 (V : Nat → Int32) (s : Nat) : md_R V s ≤ 8 := Nat.le_trans (md_R_sz V s) (md_sz8 s)
theorem md_R255 (V : Nat → Int32) {s : Nat} (hs : s < 256) : md_R V s ≤ md_R V 255 := md_R_mono (md_sub_255 s hs)
theorem md_fr_step {V : Nat → Int32} {s : Nat} (hs : s < 256) : md_fr V s = true ↔ (s = 0 ∨ (¬ md_X V s = 0 ∧ ∀ e, e < 8 → md_bit s e = 1 → md_fr V (s ^^^ 2 ^ e) = true)) := by
  constructor
  · intro h
    have hf := md_fr_iff.mp h
    rcases Nat.eq_zero_or_pos s with z | z
    · exact Or.inl z
    · refine Or.inr ⟨fun x => hf s hs z x (md_self s), fun e _ hb => md_fr_iff.mpr (fun p hp h1 hx hsub => ?_)⟩
      exact hf p hp h1 hx (md_sub_trans (md_rest_sub hb) hsub)
  · intro h
    rcases h with z | ⟨hx, hr⟩
    · rw [z]
      exact md_fr_0 V
    · refine md_fr_iff.mpr (fun p hp h1 hx2 hsub => ?_)
      by_cases q : p = s
      · rw [q] at hx2
        exact hx hx2
      · obtain ⟨e, he, hb, hsub2⟩ := md_prop hs hsub q
        exact md_fr_iff.mp (hr e he hb) p hp h1 hx2 hsub2
theorem md_fr_R {V : Nat → Int32} {s : Nat} (hs : s < 256) : md_fr V s = true ↔ md_R V s = md_sz s := by
  constructor
  · intro h
    exact Nat.le_antisymm (md_R_sz V s) (md_R_ge hs h (md_self s))
  · intro h
    obtain ⟨p, hp, hf, hsub, e⟩ := md_R_ex V s
    by_cases q : p = s
    · rw [← q]
      exact hf
    · obtain ⟨i, hi, hb, hsub2⟩ := md_prop hs hsub q
      have h1 := md_sz_le hsub2
      have h2 := (md_rest_tab s hs i hi hb).2
      omega
theorem md_ra_iff {V : Nat → Int32} {s : Nat} : md_ra V s = true ↔ ∀ e, e < 8 → md_bit s e = 1 → md_fr V (s ^^^ 2 ^ e) = true := by
  have h := md_all_iff (P := md_raP V s) 8
  constructor
  · intro a e he hb
    have h1 : (!(decide (md_bit s e = 1) && !md_fr V (s ^^^ 2 ^ e))) = true := h.mp a e he
    rw [decide_eq_true hb, Bool.true_and, Bool.not_not] at h1
    exact h1
  · intro a
    apply h.mpr
    intro e he
    show (!(decide (md_bit s e = 1) && !md_fr V (s ^^^ 2 ^ e))) = true
    by_cases hb : md_bit s e = 1
    · rw [a e he hb, Bool.not_true, Bool.and_false] <;> rfl
    · rw [decide_eq_false hb, Bool.false_and] <;> rfl
def md_grc (s e : Nat) : Bool := decide (md_bit s e = 1)
def md_grv (V : Nat → Int32) (s e : Nat) : Nat := md_R V (s ^^^ 2 ^ e)
def md_gr (V : Nat → Int32) (s : Nat) : Nat → Nat := md_mx 0 (md_grc s) (md_grv V s)
theorem md_stepA {V : Nat → Int32} {s : Nat} (hs : s < 256) (hx : ¬ md_X V s = 0) (hr : md_ra V s = true) : md_R V s = md_sz s :=
  (md_fr_R hs).mp ((md_fr_step hs).mpr (Or.inr ⟨hx, md_ra_iff.mp hr⟩))
theorem md_stepB {V : Nat → Int32} {s : Nat} (hs : s < 256) (h : md_X V s = 0 ∨ md_ra V s = false) : md_R V s = md_gr V s 8 := by
  have hge : md_gr V s 8 ≤ md_R V s := by
    refine md_mx_le (m := 0) (c := md_grc s) (v := md_grv V s) (Nat.zero_le _) 8 (fun e he hc => ?_)
    have hb : md_bit s e = 1 := of_decide_eq_true hc
    show md_R V (s ^^^ 2 ^ e) ≤ md_R V s
    exact md_R_mono (md_rest_sub hb)
  rcases Nat.eq_zero_or_pos s with z | z
  · have h1 := md_R_sz V s
    rw [z, md_sz0] at h1
    rw [z] at hge ⊢
    omega
  · refine Nat.le_antisymm (md_R_le (fun p hp hf hsub => ?_)) hge
    have hn : ¬ md_fr V s = true := by
      intro hfs
      rcases (md_fr_step hs).mp hfs with y | ⟨hx, hr⟩
      · omega
      · rcases h with y | y
        · exact hx y
        · rw [md_ra_iff.mpr hr] at y
          exact absurd y (by decide)
    have q : p ≠ s := fun q => hn (by rw [← q]; exact hf)
    obtain ⟨e, he, hb, hsub2⟩ := md_prop hs hsub q
    have h1 : md_sz p ≤ md_R V (s ^^^ 2 ^ e) := md_R_ge hp hf hsub2
    have h2 : md_R V (s ^^^ 2 ^ e) ≤ md_gr V s 8 := md_mx_ge (m := 0) (c := md_grc s) (v := md_grv V s) 8 e he (decide_eq_true hb)
    exact Nat.le_trans h1 h2
theorem md_xo0 (s : Nat) : ∀ e, md_xo (fun _ => 0) s e = 0 := by
  intro e
  induction e with
  | zero => rfl
  | succ e ih =>
    show (if md_bit s e = 1 then md_xo (fun _ => 0) s e ^^^ 0 else md_xo (fun _ => 0) s e) = 0
    rw [ih]
    split
    · decide
    · rfl
theorem md_R0 (s : Nat) : md_R (fun _ => 0) s = 0 := by
  refine Nat.le_antisymm (md_R_le (fun p hp hf _ => ?_)) (Nat.zero_le _)
  rcases Nat.eq_zero_or_pos p with z | z
  · rw [z, md_sz0]
    exact Nat.le_refl 0
  · exact absurd (md_self p) (md_fr_iff.mp hf p hp z (md_xo0 p 8))
/-! ===== what the methods answer ===== -/
def md_bI (b : Bool) : Int32 := if b = true then 1 else 0
theorem md_bI_t {b : Bool} (h : b = true) : md_bI b = 1 := by subst h; rfl
theorem md_bI_f {b : Bool} (h : b = false) : md_bI b = 0 := by subst h; rfl
theorem md_bI_n (b : Bool) : narrow .boolean (.int (md_bI b)) = .int (md_bI b) := by cases b <;> rfl
theorem md_bI_0 {b : Bool} : md_bI b = 0 ↔ b = false := by cases b <;> decide
theorem md_bI_1 {b : Bool} : md_bI b = 1 ↔ b = true := by cases b <;> decide
def md_cl (V : Nat → Int32) (s : Nat) : Nat → Int32
  | 0 => 0
  | e + 1 => if md_R V (s ||| 2 ^ e) = md_R V s then md_cl V s e ||| nI (2 ^ e) else md_cl V s e
def md_ct (c : Nat → Bool) : Nat → Int32
  | 0 => 0
  | i + 1 => if c i = true then md_ct c i + 1 else md_ct c i
def md_ba (V : Nat → Int32) (s : Nat) : Bool := md_fr V s && decide (md_sz s = md_R V 255)
def md_ci (V : Nat → Int32) (s : Nat) : Bool := !md_fr V s && md_ra V s
def md_pw (b : Int32) : Nat → Int32
  | 0 => 1
  | n + 1 => md_pw b n * b
theorem md_pw_s (b : Int32) (n : Nat) : md_pw b (n + 1) = md_pw b n * b := rfl
def md_po (V : Nat → Int32) (x y : Int32) : Nat → Int32
  | 0 => 0
  | i + 1 => md_po V x y i + md_pw (x - 1) (md_R V 255 - md_R V i) * md_pw (y - 1) (md_sz i - md_R V i)
def md_sn (C : Nat → Int32) (s : Nat) : Nat → Int32
  | 0 => 0
  | e + 1 => if md_bit s e = 1 then md_sn C s e ||| ((1 : Int32) <<< (C e &&& 31)) else md_sn C s e
def md_dcP (C : Nat → Int32) (s e : Nat) : Bool := !(decide (md_bit s e = 1 ∧ ¬ (md_sn C s e &&& ((1 : Int32) <<< (C e &&& 31))) = 0))
def md_dc (C : Nat → Int32) (s : Nat) : Bool := md_all (md_dcP C s) 8
def md_rc (V C : Nat → Int32) (s : Nat) : Bool := md_fr V s && md_dc C s
def md_rb (V C : Nat → Int32) : Nat := md_mx 0 (md_rc V C) md_sz 256
theorem md_rc_f1 {V C : Nat → Int32} {s : Nat} (h : md_fr V s = false) : md_rc V C s = false := by
  unfold md_rc
  rw [h, Bool.false_and]
theorem md_rc_f2 {V C : Nat → Int32} {s : Nat} (h : md_dc C s = false) : md_rc V C s = false := by
  unfold md_rc
  rw [h, Bool.and_false]
theorem md_rc_t {V C : Nat → Int32} {s : Nat} (h : md_fr V s = true) (h2 : md_dc C s = true) : md_rc V C s = true := by
  unfold md_rc
  rw [h, h2] <;> rfl
def md_sw (W : Nat → Int32) (s : Nat) : Nat → Int32
  | 0 => 0
  | e + 1 => if md_bit s e = 1 then md_sw W s e + W e else md_sw W s e
def md_hv (b : Int32) (c : Nat → Bool) (w : Nat → Int32) : Nat → Int32
  | 0 => b
  | i + 1 => if c i = true ∧ md_hv b c w i < w i then w i else md_hv b c w i
def md_ub (V : Nat → Int32) (a b : Nat) : Bool := md_fr V a && md_fr V b
def md_uv (a b : Nat) : Nat := md_sz (a ||| b)
def md_G (V : Nat → Int32) (a : Nat) : Nat := md_mx 0 (md_fr V) (md_uv a) 256
def md_un (V : Nat → Int32) : Nat → Nat
  | 0 => 0
  | a + 1 => md_mx (md_un V a) (md_ub V a) (md_uv a) 256
theorem md_un_s (V : Nat → Int32) (a : Nat) : md_un V (a + 1) = md_mx (md_un V a) (md_ub V a) (md_uv a) 256 := rfl
theorem md_un_eq (V : Nat → Int32) : ∀ n, md_un V n = md_mx 0 (md_fr V) (md_G V) n := by
  intro n
  induction n with
  | zero => rfl
  | succ n ih =>
    rw [md_un_s, md_mx_s 0 (md_fr V) (md_G V) n, ih]
    generalize md_mx 0 (md_fr V) (md_G V) n = m
    cases h : md_fr V n with
    | false =>
      have e : md_mx m (md_ub V n) (md_uv n) 256 = m := md_mx_no 256 (fun i _ => by unfold md_ub; rw [h, Bool.false_and])
      rw [e]
      simp
    | true =>
      have e : md_ub V n = md_fr V := funext (fun b => by unfold md_ub; rw [h, Bool.true_and])
      rw [e, md_mx_max m]
      show (if m < md_G V n then md_G V n else m) = _
      simp
theorem md_ba_ex (V : Nat → Int32) : ∃ s, s < 256 ∧ md_ba V s = true := by
  obtain ⟨p, hp, hf, _, e⟩ := md_R_ex V 255
  exact ⟨p, hp, by unfold md_ba; rw [hf, decide_eq_true e.symm] <;> rfl⟩
theorem md_sw_b {W : Nat → Int32} (hW : ∀ e, e < 8 → -100 ≤ (W e).toInt ∧ (W e).toInt ≤ 100) (s : Nat) : ∀ n : Nat, n ≤ 8 → -(100 * (n : Int)) ≤ (md_sw W s n).toInt ∧ (md_sw W s n).toInt ≤ 100 * (n : Int) := by
  intro n
  induction n with
  | zero =>
    intro _
    show -(100 * ((0 : Nat) : Int)) ≤ (0 : Int32).toInt ∧ (0 : Int32).toInt ≤ 100 * ((0 : Nat) : Int)
    decide
  | succ n ih =>
    intro h
    have h1 := ih (by omega)
    have h2 := hW n (by omega)
    by_cases hb : md_bit s n = 1
    · have e0 : md_sw W s (n + 1) = md_sw W s n + W n := if_pos hb
      have e : (md_sw W s n + W n).toInt = (md_sw W s n).toInt + (W n).toInt := by
        rw [Int32.toInt_add]
        exact Int.bmod_eq_of_le (by omega) (by omega)
      rw [e0, e]
      exact ⟨by omega, by omega⟩
    · have e0 : md_sw W s (n + 1) = md_sw W s n := if_neg hb
      rw [e0]
      exact ⟨by omega, by omega⟩
theorem md_sw_gt {W : Nat → Int32} (hW : ∀ e, e < 8 → -100 ≤ (W e).toInt ∧ (W e).toInt ≤ 100) (s : Nat) : (-801 : Int32) < md_sw W s 8 ∧ (-1000 : Int32) < md_sw W s 8 := by
  have h := (md_sw_b hW s 8 (Nat.le_refl 8)).1
  rw [Int32.lt_iff_toInt_lt, Int32.lt_iff_toInt_lt, show (-801 : Int32).toInt = -801 from by decide, show (-1000 : Int32).toInt = -1000 from by decide]
  omega
theorem md_hv_eq {c : Nat → Bool} {w : Nat → Int32} (hw : ∀ i, (-801 : Int32) < w i ∧ (-1000 : Int32) < w i) : ∀ n, md_hv (-801) c w n = md_hv (-1000) c w n ∨ (md_hv (-801) c w n = -801 ∧ md_hv (-1000) c w n = -1000 ∧ ∀ i, i < n → c i = false) := by
  intro n
  induction n with
  | zero => exact Or.inr ⟨rfl, rfl, fun i hi => absurd hi (Nat.not_lt_zero i)⟩
  | succ n ih =>
    have e1 : ∀ b, md_hv b c w (n + 1) = if c n = true ∧ md_hv b c w n < w n then w n else md_hv b c w n := fun _ => rfl
    rw [e1, e1]
    cases hc : c n with
    | false =>
      have f : ∀ b, (if false = true ∧ md_hv b c w n < w n then w n else md_hv b c w n) = md_hv b c w n := fun b => if_neg (fun z => absurd z.1 (by decide))
      rw [f, f]
      rcases ih with e | ⟨a, b, d⟩
      · exact Or.inl e
      · refine Or.inr ⟨a, b, fun i hi => ?_⟩
        rcases Nat.lt_or_ge i n with q | q
        · exact d i q
        · have e : i = n := by omega
          rw [e]
          exact hc
    | true =>
      rcases ih with e | ⟨a, b, d⟩
      · rw [e]
        exact Or.inl rfl
      · have g1 : (if true = true ∧ (-801 : Int32) < w n then w n else -801) = w n := if_pos ⟨rfl, (hw n).1⟩
        have g2 : (if true = true ∧ (-1000 : Int32) < w n then w n else -1000) = w n := if_pos ⟨rfl, (hw n).2⟩
        rw [a, b, g1, g2]
        exact Or.inl rfl
def md_he (V W : Nat → Int32) : Int32 := md_hv (-801) (md_ba V) (fun s => md_sw W s 8) 256
theorem md_he_eq {V W : Nat → Int32} (hW : ∀ e, e < 8 → -100 ≤ (W e).toInt ∧ (W e).toInt ≤ 100) : md_hv (-1000) (md_ba V) (fun s => md_sw W s 8) 256 = md_he V W := by
  rcases md_hv_eq (c := md_ba V) (w := fun s => md_sw W s 8) (fun s => md_sw_gt hW s) 256 with e | ⟨_, _, d⟩
  · exact e.symm
  · obtain ⟨s, hs, hb⟩ := md_ba_ex V
    rw [d s hs] at hb
    exact absurd hb (by decide)
theorem md_G8 (V : Nat → Int32) (a : Nat) : md_G V a ≤ 8 := md_mx_le (m := 0) (c := md_fr V) (v := md_uv a) (Nat.zero_le 8) 256 (fun b _ _ => md_sz8 (a ||| b))
