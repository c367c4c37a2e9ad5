/-! ===== the same as int arithmetic ===== -/
theorem md_or (a b : Nat) : nI a ||| nI b = nI (a ||| b) := by
  apply Int32.toBitVec_inj.1
  show BitVec.ofNat 32 a ||| BitVec.ofNat 32 b = BitVec.ofNat 32 (a ||| b)
  apply BitVec.eq_of_getLsbD_eq
  intro i hi
  simp [hi]
theorem md_shr {s e : Nat} (hs : s < 256) (he : e < 8) : nI s >>> (nI e &&& 31) &&& 1 = nI (md_bit s e) := by
  have h1 : s / 2 ^ e ≤ s := Nat.div_le_self _ _
  rw [pk_shrN (n := s) (by omega) (nI e &&& 31) e (s_l e (by omega)), pk_andN (n := s / 2 ^ e) (by omega) (m := 1) 1 (by decide)] <;> rfl
theorem md_shl : ∀ e, e < 8 → (1 : Int32) <<< (nI e &&& 31) = nI (2 ^ e) := by decide +kernel
theorem md_p256 : ∀ e, e < 8 → 2 ^ e < 256 := by decide +kernel
theorem md_or256 {a b : Nat} (ha : a < 256) (hb : b < 256) : a ||| b < 256 := Nat.or_lt_two_pow (n := 8) ha hb
theorem md_xor256 {a b : Nat} (ha : a < 256) (hb : b < 256) : a ^^^ b < 256 := Nat.xor_lt_two_pow (n := 8) ha hb
theorem md_xr {s e : Nat} (he : e < 8) : nI s ^^^ ((1 : Int32) <<< (nI e &&& 31)) = nI (s ^^^ 2 ^ e) := by rw [md_shl e he, nx_xor]
theorem md_orr {s e : Nat} (he : e < 8) : nI s ||| ((1 : Int32) <<< (nI e &&& 31)) = nI (s ||| 2 ^ e) := by rw [md_shl e he, md_or]
theorem md_cmp : ∀ s, s < 256 → ∀ e, e < 8 → md_bit s e = 1 → nI s &&& (((1 : Int32) <<< (nI e &&& 31)) ^^^ (-1)) = nI (s ^^^ 2 ^ e) := by decide +kernel
theorem md_n01 {s e : Nat} : nI (md_bit s e) = 0 ↔ ¬ md_bit s e = 1 := by
  rcases md_bit01 s e with h | h
  · rw [h]
    exact ⟨fun _ => by omega, fun _ => rfl⟩
  · rw [h]
    exact ⟨fun z => absurd z (by decide), fun z => absurd rfl z⟩
theorem md_n11 {s e : Nat} : nI (md_bit s e) = 1 ↔ md_bit s e = 1 := by
  rcases md_bit01 s e with h | h
  · rw [h]
    exact ⟨fun z => absurd z (by decide), fun z => absurd z (by decide)⟩
  · rw [h]
    exact ⟨fun _ => rfl, fun _ => rfl⟩
theorem md_b1 : ∀ i, i < 32 → bt 1 i = decide (i = 0) := by decide +kernel
theorem md_bs : ∀ c, c < 8 → ∀ i, i < 32 → bt ((1 : Int32) <<< (nI c &&& 31)) i = decide (i = c) := by decide +kernel
theorem md_seen (x : Int32) {c : Nat} (hc : c < 8) : (x &&& ((1 : Int32) <<< (nI c &&& 31))) = 0 ↔ ¬ (x >>> (nI c &&& 31) &&& 1 = 1) := by
  have hb : ∀ i, i < 32 → bt (x >>> (nI c &&& 31) &&& 1) i = ((if c + i < 32 then bt x (c + i) else bt x 31) && decide (i = 0)) := by
    intro i hi
    rw [b_and, b_sshr c (by omega) x hi, md_b1 i hi]
  have ha : ∀ i, i < 32 → bt (x &&& ((1 : Int32) <<< (nI c &&& 31))) i = (bt x i && decide (i = c)) := by
    intro i hi
    rw [b_and, md_bs c hc i hi]
  have h32 : c < 32 := by omega
  cases e : bt x c with
  | true =>
    constructor
    · intro z
      have h := ha c (by omega)
      rw [z, b_0, e] at h
      simp at h
    · intro z
      exfalso
      apply z
      apply b_ext
      intro i hi
      rw [hb i hi, md_b1 i hi]
      by_cases q : i = 0
      · simp [q, h32, e]
      · rw [decide_eq_false q, Bool.and_false]
  | false =>
    constructor
    · intro _ z
      have h := hb 0 (by omega)
      rw [z, md_b1 0 (by omega), Nat.add_zero, if_pos h32, e] at h
      simp at h
    · intro _
      apply b_ext
      intro i hi
      rw [ha i hi, b_0]
      by_cases q : i = c
      · simp [q, e]
      · rw [decide_eq_false q, Bool.and_false]
theorem md_n8 : (8 : Int32) = nI 8 := by decide +kernel
theorem md_n256 : (256 : Int32) = nI 256 := by decide +kernel
theorem md_vb0 : vp_nar .boolean 0 = 0 := rfl
theorem md_vb1 : vp_nar .boolean 1 = 1 := rfl
theorem md_le8 : (8 : Int32) ≤ nI 8 := by decide +kernel
theorem md_le256 : (256 : Int32) ≤ nI 256 := by decide +kernel
theorem md_nle8 {i : Nat} (h : i < 8) : ¬ (8 : Int32) ≤ nI i := nI_ge (b := 8) h (by decide)
theorem md_nle256 {i : Nat} (h : i < 256) : ¬ (256 : Int32) ≤ nI i := nI_ge (b := 256) h (by decide)
theorem md_cl8 {i : Nat} (h : i < 8) : (nI i).toNatClampNeg = i := nI_clamp (by omega)
theorem md_cl256 {i : Nat} (h : i < 256) : (nI i).toNatClampNeg = i := nI_clamp (by omega)
theorem md_in8 {i : Nat} (h : i < 8) : vp_in (nI i) 8 := vp_in_nI h (by omega)
theorem md_in256 {i : Nat} (h : i < 256) : vp_in (nI i) 256 := vp_in_nI h (by omega)
theorem md_rest256 {s e : Nat} (hs : s < 256) (he : e < 8) : s ^^^ 2 ^ e < 256 := md_xor256 hs (md_p256 e he)
theorem md_ex7 (x : Int32) : ∃ j, j < 8 ∧ x &&& 7 = nI j := pk_andE x 3 (by decide)
theorem md_ex255 (x : Int32) : ∃ j, j < 256 ∧ x &&& 255 = nI j := pk_andE x 8 (by decide)
theorem md_le_n {a b : Nat} (ha : a ≤ 8) (hb : b ≤ 8) : nI a ≤ nI b ↔ a ≤ b := nI_leI (by omega) (by omega)
theorem md_lt_n {a b : Nat} (ha : a ≤ 8) (hb : b ≤ 8) : nI a < nI b ↔ a < b := nI_ltI (by omega) (by omega)
theorem md_eq_n {a b : Nat} (ha : a ≤ 8) (hb : b ≤ 8) : nI a = nI b ↔ a = b := nI_eq (by omega) (by omega)
theorem md_mx8 {c : Nat → Bool} {v : Nat → Nat} (hv : ∀ i, v i ≤ 8) (n : Nat) : md_mx 0 c v n ≤ 8 := md_mx_le (Nat.zero_le 8) n (fun i _ _ => hv i)
theorem md_fb_s (V : Nat → Int32) (t n : Nat) : md_fb V t (n + 1) = (md_fb V t n && md_fP V t n) := rfl
theorem md_fb_k {V : Nat → Int32} {t n : Nat} (h : ¬ (1 ≤ n ∧ md_X V n = 0 ∧ t &&& n = n)) : md_fb V t (n + 1) = md_fb V t n := by
  have hd : md_fP V t n = true := congrArg not (decide_eq_false h)
  rw [md_fb_s, hd, Bool.and_true]
theorem md_fb_z {V : Nat → Int32} {t n : Nat} (h1 : 1 ≤ n) (h2 : md_X V n = 0) (h3 : t &&& n = n) : md_fb V t (n + 1) = false := by
  have hz : 1 ≤ n ∧ md_X V n = 0 ∧ t &&& n = n := ⟨h1, h2, h3⟩
  have hd : md_fP V t n = false := congrArg not (decide_eq_true hz)
  rw [md_fb_s, hd, Bool.and_false]
theorem md_fb_1 (V : Nat → Int32) (t : Nat) : md_fb V t 1 = true := by
  have h : ¬ (1 ≤ 0 ∧ md_X V 0 = 0 ∧ t &&& 0 = 0) := fun z => absurd z.1 (by decide)
  exact md_fb_k h
theorem md_dcP_f {C : Nat → Int32} {s e : Nat} (hb : md_bit s e = 1) (h : ¬ (md_sn C s e &&& ((1 : Int32) <<< (C e &&& 31))) = 0) : md_dcP C s e = false := by
  have hz : md_bit s e = 1 ∧ ¬ (md_sn C s e &&& ((1 : Int32) <<< (C e &&& 31))) = 0 := ⟨hb, h⟩
  exact congrArg not (decide_eq_true hz)
theorem md_dcP_t {C : Nat → Int32} {s e : Nat} (h : ¬ (md_bit s e = 1 ∧ ¬ (md_sn C s e &&& ((1 : Int32) <<< (C e &&& 31))) = 0)) : md_dcP C s e = true :=
  congrArg not (decide_eq_false h)
theorem md_raP_f {U : Nat → Int32} {s e : Nat} (hb : md_bit s e = 1) (h : md_fr U (s ^^^ 2 ^ e) = false) : md_raP U s e = false := by
  unfold md_raP
  rw [decide_eq_true hb, h] <;> rfl
theorem md_raP_t {U : Nat → Int32} {s e : Nat} (h : md_fr U (s ^^^ 2 ^ e) = true) : md_raP U s e = true := by
  unfold md_raP
  rw [h, Bool.not_true, Bool.and_false] <;> rfl
theorem md_raP_n {U : Nat → Int32} {s e : Nat} (hb : ¬ md_bit s e = 1) : md_raP U s e = true := by
  unfold md_raP
  rw [decide_eq_false hb, Bool.false_and] <;> rfl
theorem md_all_t {P : Nat → Bool} {n : Nat} (h : md_all P n = true) (hn : P n = true) : md_all P (n + 1) = true := by
  rw [md_all_s, h, hn] <;> rfl
theorem md_ba_f {U : Nat → Int32} {s : Nat} (h : md_fr U s = false) : md_ba U s = false := by
  unfold md_ba
  rw [h, Bool.false_and]
theorem md_ba_t {U : Nat → Int32} {s : Nat} (h : md_fr U s = true) (e : md_sz s = md_R U 255) : md_ba U s = true := by
  unfold md_ba
  rw [h, decide_eq_true e] <;> rfl
theorem md_ba_n {U : Nat → Int32} {s : Nat} (e : ¬ md_sz s = md_R U 255) : md_ba U s = false := by
  unfold md_ba
  rw [decide_eq_false e, Bool.and_false]
theorem md_ci_f {U : Nat → Int32} {s : Nat} (h : md_fr U s = true) : md_ci U s = false := by
  unfold md_ci
  rw [h, Bool.not_true, Bool.false_and]
theorem md_ci_r {U : Nat → Int32} {s : Nat} (h : md_fr U s = false) : md_ci U s = md_ra U s := by
  unfold md_ci
  rw [h, Bool.not_false, Bool.true_and]
theorem md_ct_t {c : Nat → Bool} {i : Nat} (h : c i = true) : md_ct c (i + 1) = md_ct c i + 1 := if_pos h
theorem md_ct_f {c : Nat → Bool} {i : Nat} (h : c i = false) : md_ct c (i + 1) = md_ct c i := if_neg (fun z => by rw [h] at z; exact absurd z (by decide))
theorem md_hv_t {b : Int32} {c : Nat → Bool} {w : Nat → Int32} {i : Nat} (h : c i = true) (hw : md_hv b c w i < w i) : md_hv b c w (i + 1) = w i := if_pos ⟨h, hw⟩
theorem md_hv_f {b : Int32} {c : Nat → Bool} {w : Nat → Int32} {i : Nat} (h : c i = false) : md_hv b c w (i + 1) = md_hv b c w i := if_neg (fun z => by rw [h] at z; exact absurd z.1 (by decide))
theorem md_hv_n {b : Int32} {c : Nat → Bool} {w : Nat → Int32} {i : Nat} (hw : ¬ md_hv b c w i < w i) : md_hv b c w (i + 1) = md_hv b c w i := if_neg (fun z => hw z.2)
theorem md_c255 : (255 : Int32).toNatClampNeg = 255 := by decide +kernel
theorem md_i255 : vp_in 255 256 := vp_in_nI (n := 255) (by omega) (by omega)
theorem md_po_s (V : Nat → Int32) (x y : Int32) (i : Nat) : md_po V x y (i + 1) = md_po V x y i + md_pw (x - 1) (md_R V 255 - md_R V i) * md_pw (y - 1) (md_sz i - md_R V i) := rfl
theorem md_eq256 {a b : Nat} (ha : a < 256) (hb : b < 256) : nI a = nI b ↔ a = b := nI_eq (by omega) (by omega)
theorem md_and256 {a b : Nat} (ha : a < 256) : a &&& b < 256 := Nat.lt_of_le_of_lt Nat.and_le_left ha
