section
/-! rows pasted from kit/rows -/
theorem pk_us {f : Nat → Int32} {k : Nat} {x : Int32} : upd f k x k = x := if_pos rfl
theorem pk_un {f : Nat → Int32} {k j : Nat} {x : Int32} (h : j ≠ k) : upd f k x j = f j := if_neg h
theorem pk_sub {a b : Nat} (h : b ≤ a) : nI a - nI b = nI (a - b) := by
  obtain ⟨c, rfl⟩ : ∃ c, a = c + b := ⟨a - b, by omega⟩
  rw [← nI_add, Int32.add_sub_cancel, Nat.add_sub_cancel]
theorem pk_le {x y : Int32} {A B : Prop} (a b : Nat) (f : a ≤ b → A) (g : b < a → B) (hx : x = nI a := by rfl) (hy : y = nI b := by rfl) (ha : a < 2 ^ 31 := by omega) (hb : b < 2 ^ 31 := by omega) : (x ≤ y → A) ∧ (¬ x ≤ y → B) := by
  subst hx hy
  rw [nI_leI ha hb]
  exact ⟨f, fun z => g (by omega)⟩
theorem pk_lt {x y : Int32} {A B : Prop} (a b : Nat) (f : a < b → A) (g : b ≤ a → B) (hx : x = nI a := by rfl) (hy : y = nI b := by rfl) (ha : a < 2 ^ 31 := by omega) (hb : b < 2 ^ 31 := by omega) : (x < y → A) ∧ (¬ x < y → B) := by
  subst hx hy
  rw [nI_ltI ha hb]
  exact ⟨f, fun z => g (by omega)⟩
theorem pk_eq {x y : Int32} {A B : Prop} (a b : Nat) (f : a = b → A) (g : a ≠ b → B) (hx : x = nI a := by rfl) (hy : y = nI b := by rfl) (ha : a < 2 ^ 31 := by omega) (hb : b < 2 ^ 31 := by omega) : (x = y → A) ∧ (¬ x = y → B) := by
  subst hx hy
  rw [nI_eq ha hb]
  exact ⟨f, g⟩
theorem pk_in {x : Int32} (n N : Nat) (h : n < N) (hx : x = nI n := by rfl) (hN : N < 2 ^ 31 := by omega) : vp_in x N := by
  subst hx
  exact vp_in_nI h hN
theorem pk_cl {x : Int32} (n : Nat) (hx : x = nI n := by rfl) (h : n < 2 ^ 31 := by omega) : x.toNatClampNeg = n := by
  subst hx
  exact nI_clamp h
theorem pk_tn {n : Nat} (h : n < 2 ^ 32) : (nI n).toBitVec.toNat = n := Nat.mod_eq_of_lt h
theorem pk_and (x : Int32) {m : Int32} (k : Nat) (hm : m.toBitVec.toNat = 2 ^ k - 1) : x &&& m = nI (x.toBitVec.toNat % 2 ^ k) := by
  apply Int32.toBitVec_inj.mp
  apply BitVec.eq_of_toNat_eq
  rw [Int32.toBitVec_and, BitVec.toNat_and, hm, Nat.and_two_pow_sub_one_eq_mod]
  show _ = (BitVec.ofNat 32 _).toNat
  rw [BitVec.toNat_ofNat]
  exact (Nat.mod_eq_of_lt (Nat.lt_of_le_of_lt (Nat.mod_le _ _) x.toBitVec.isLt)).symm
theorem pk_andN {n : Nat} (h : n < 2 ^ 32) {m : Int32} (k : Nat) (hm : m.toBitVec.toNat = 2 ^ k - 1) : nI n &&& m = nI (n % 2 ^ k) := by
  rw [pk_and _ k hm, pk_tn h]
theorem pk_andE (x : Int32) {m : Int32} (k : Nat) (hm : m.toBitVec.toNat = 2 ^ k - 1) : ∃ j : Nat, j < 2 ^ k ∧ x &&& m = nI j := ⟨_, Nat.mod_lt _ (Nat.two_pow_pos k), pk_and x k hm⟩
theorem pk_shl (a s : Int32) (k : Nat) (hs : (s.toBitVec.smod 32).toNat = k) : (a <<< s).toBitVec.toNat = a.toBitVec.toNat * 2 ^ k % 2 ^ 32 := by
  show (a.toBitVec <<< (s.toBitVec.smod 32).toNat).toNat = _
  rw [hs, BitVec.toNat_shiftLeft, Nat.shiftLeft_eq]
theorem pk_shlN {n : Nat} (s : Int32) (k : Nat) (hs : (s.toBitVec.smod 32).toNat = k) (h : n * 2 ^ k < 2 ^ 32) : nI n <<< s = nI (n * 2 ^ k) := by
  apply Int32.toBitVec_inj.mp
  apply BitVec.eq_of_toNat_eq
  have hn : n < 2 ^ 32 := Nat.lt_of_le_of_lt (Nat.le_mul_of_pos_right n (Nat.two_pow_pos k)) h
  rw [pk_shl _ _ k hs, pk_tn hn, pk_tn h, Nat.mod_eq_of_lt h]
theorem pk_shr (a s : Int32) (k : Nat) (hs : (s.toBitVec.smod 32).toNat = k) : (a >>> s).toInt = a.toInt >>> k := by
  show (a.toBitVec.sshiftRight (s.toBitVec.smod 32).toNat).toInt = _
  rw [hs, BitVec.toInt_sshiftRight]
  rfl
theorem pk_shrN {n : Nat} (h : n < 2 ^ 31) (s : Int32) (k : Nat) (hs : (s.toBitVec.smod 32).toNat = k) : nI n >>> s = nI (n / 2 ^ k) := by
  apply Int32.toInt_inj.mp
  have h2 : n / 2 ^ k ≤ n := Nat.div_le_self _ _
  rw [pk_shr _ _ k hs, nI_toInt h, nI_toInt (by omega), Int.shiftRight_eq_div_pow]
  rfl
theorem pk_loop {σ : Type} (W : Nat → Nat → σ → Prop) (I : Nat → σ → Prop) (e i0 : Nat) (s : σ) (hi : i0 ≤ e) (h0 : I i0 s) (hx : ∀ n s, I e s → W (n + 1) e s)
    (hs : ∀ n i s, i < e → I i s → (∀ s', I (i + 1) s' → W n (i + 1) s') → W (n + 1) i s) : ∃ n, W n i0 s :=
  ⟨e + 1, loop_i W I e hx hs (e + 1) i0 s hi (by omega) h0⟩
def bt (x : Int32) (i : Nat) : Bool := x.toBitVec.getLsbD i
theorem b_ext {x y : Int32} (h : ∀ i, i < 32 → bt x i = bt y i) : x = y := Int32.toBitVec_inj.mp (BitVec.eq_of_getLsbD_eq (fun i hi => h i hi))
theorem b_and (x y : Int32) (i : Nat) : bt (x &&& y) i = (bt x i && bt y i) := by unfold bt; rw [Int32.toBitVec_and, BitVec.getLsbD_and]
theorem b_0 (i : Nat) : bt 0 i = false := BitVec.getLsbD_zero
theorem s_l : ∀ n, n < 32 → ((nI n &&& 31).toBitVec.smod 32).toNat = n := by decide +kernel
theorem b_sshr (n : Nat) (hn : n < 32) (x : Int32) {i : Nat} (hi : i < 32) : bt (x >>> (nI n &&& 31)) i = if n + i < 32 then bt x (n + i) else bt x 31 := by
  unfold bt
  rw [Int32.toBitVec_shiftRight]
  show (x.toBitVec.sshiftRight ((nI n &&& 31).toBitVec.smod 32).toNat).getLsbD i = _
  rw [s_l n hn, BitVec.getLsbD_sshiftRight, BitVec.msb_eq_getLsbD_last]
  simp [hi]
theorem nx_and (a b : Nat) : nI a &&& nI b = nI (a &&& b) := by
  apply Int32.toBitVec_inj.1
  show BitVec.ofNat 32 a &&& BitVec.ofNat 32 b = BitVec.ofNat 32 (a &&& b)
  apply BitVec.eq_of_getLsbD_eq
  intro i hi
  simp [hi]
theorem nx_xor (a b : Nat) : nI a ^^^ nI b = nI (a ^^^ b) := by
  apply Int32.toBitVec_inj.1
  show BitVec.ofNat 32 a ^^^ BitVec.ofNat 32 b = BitVec.ofNat 32 (a ^^^ b)
  apply BitVec.eq_of_getLsbD_eq
  intro i hi
  simp [hi]
end
section
/-! ===== sets as numbers below 256: bits, sizes, parts, rests ===== -/
def md_bit (s e : Nat) : Nat := s / 2 ^ e % 2
def md_szu (s : Nat) : Nat → Nat
  | 0 => 0
  | e + 1 => md_szu s e + md_bit s e
theorem md_szu_s (s e : Nat) : md_szu s (e + 1) = md_szu s e + md_bit s e := rfl
def md_sz (s : Nat) : Nat := md_szu s 8
theorem md_bit01 (s e : Nat) : md_bit s e = 0 ∨ md_bit s e = 1 := Nat.mod_two_eq_zero_or_one _
theorem md_tb (s e : Nat) : s.testBit e = decide (md_bit s e = 1) := Nat.testBit_eq_decide_div_mod_eq
theorem md_tb1 {s e : Nat} : s.testBit e = true ↔ md_bit s e = 1 := by rw [md_tb, decide_eq_true_iff]
theorem md_sub_iff {s p : Nat} : s &&& p = p ↔ ∀ e, md_bit p e = 1 → md_bit s e = 1 := by
  constructor
  · intro h e he
    have h1 : (s &&& p).testBit e = p.testBit e := by rw [h]
    rw [Nat.testBit_and, md_tb1.mpr he, Bool.and_true] at h1
    exact md_tb1.mp h1
  · intro h
    apply Nat.eq_of_testBit_eq
    intro e
    rw [Nat.testBit_and]
    cases hp : p.testBit e with
    | false => rw [Bool.and_false]
    | true =>
      rw [Bool.and_true]
      exact md_tb1.mpr (h e (md_tb1.mp hp))
theorem md_self (s : Nat) : s &&& s = s := md_sub_iff.mpr (fun _ h => h)
theorem md_sub_trans {a b c : Nat} (h1 : a &&& b = b) (h2 : b &&& c = c) : a &&& c = c :=
  md_sub_iff.mpr (fun e he => md_sub_iff.mp h1 e (md_sub_iff.mp h2 e he))
theorem md_rest_bit {s e i : Nat} (h : md_bit s e = 1) : md_bit (s ^^^ 2 ^ e) i = 1 ↔ (md_bit s i = 1 ∧ i ≠ e) := by
  have ht : (s ^^^ 2 ^ e).testBit i = (s.testBit i ^^ decide (e = i)) := by
    rw [Nat.testBit_xor, Nat.testBit_two_pow]
  rw [← md_tb1, ← md_tb1, ht]
  by_cases c : e = i
  · subst c
    rw [md_tb1.mpr h]
    simp
  · have hd : decide (e = i) = false := decide_eq_false c
    rw [hd]
    cases s.testBit i with
    | false => exact ⟨fun z => absurd z (by decide), fun z => absurd z.1 (by decide)⟩
    | true => exact ⟨fun _ => ⟨rfl, fun q => c q.symm⟩, fun _ => rfl⟩
theorem md_rest_sub {s e : Nat} (h : md_bit s e = 1) : s &&& (s ^^^ 2 ^ e) = s ^^^ 2 ^ e :=
  md_sub_iff.mpr (fun _ hi => ((md_rest_bit h).mp hi).1)
theorem md_rest_tab : ∀ s, s < 256 → ∀ e, e < 8 → md_bit s e = 1 → s ^^^ 2 ^ e < s ∧ md_sz (s ^^^ 2 ^ e) + 1 = md_sz s := by decide +kernel
theorem md_hi {s e : Nat} (hs : s < 256) (h : md_bit s e = 1) : e < 8 := by
  rcases Nat.lt_or_ge e 8 with q | q
  · exact q
  · have hp : 2 ^ 8 ≤ 2 ^ e := Nat.pow_le_pow_right (by decide) q
    have hs2 : s < 2 ^ 8 := hs
    have h1 : s / 2 ^ e = 0 := Nat.div_eq_of_lt (Nat.lt_of_lt_of_le hs2 hp)
    unfold md_bit at h
    rw [h1] at h
    exact absurd h (by decide)
theorem md_prop {s p : Nat} (hs : s < 256) (h : s &&& p = p) (hn : p ≠ s) : ∃ e, e < 8 ∧ md_bit s e = 1 ∧ (s ^^^ 2 ^ e) &&& p = p := by
  obtain ⟨i, hi⟩ := Nat.exists_testBit_ne_of_ne hn
  have hsub := md_sub_iff.mp h
  have hp : ¬ md_bit p i = 1 := by
    intro hp
    exact hi (by rw [md_tb1.mpr hp, md_tb1.mpr (hsub i hp)])
  have hs1 : md_bit s i = 1 := by
    rcases md_bit01 s i with z | z
    · exfalso
      apply hi
      have hz : ¬ md_bit s i = 1 := by omega
      rw [md_tb, md_tb, decide_eq_false hp, decide_eq_false hz]
    · exact z
  refine ⟨i, md_hi hs hs1, hs1, md_sub_iff.mpr ?_⟩
  intro j hj
  exact (md_rest_bit hs1).mpr ⟨hsub j hj, fun q => hp (by rw [← q]; exact hj)⟩
theorem md_szu_le {s p : Nat} (h : s &&& p = p) : ∀ e, md_szu p e ≤ md_szu s e := by
  intro e
  induction e with
  | zero => exact Nat.le_refl _
  | succ e ih =>
    have h3 := md_bit01 s e
    show md_szu p e + md_bit p e ≤ md_szu s e + md_bit s e
    rcases md_bit01 p e with z | z
    · omega
    · have h1 := md_sub_iff.mp h e z
      omega
theorem md_sz_le {s p : Nat} (h : s &&& p = p) : md_sz p ≤ md_sz s := md_szu_le h 8
theorem md_szu_b (s : Nat) : ∀ e, md_szu s e ≤ e := by
  intro e
  induction e with
  | zero => exact Nat.le_refl _
  | succ e ih =>
    have h3 := md_bit01 s e
    show md_szu s e + md_bit s e ≤ e + 1
    omega
theorem md_sz8 (s : Nat) : md_sz s ≤ 8 := md_szu_b s 8
theorem md_sub_255 : ∀ s, s < 256 → 255 &&& s = s := by decide +kernel
/-! ===== greatest values, all of a row ===== -/
def md_mx (m : Nat) (c : Nat → Bool) (v : Nat → Nat) : Nat → Nat
  | 0 => m
  | i + 1 => if c i = true ∧ md_mx m c v i < v i then v i else md_mx m c v i
theorem md_mx_s (m : Nat) (c : Nat → Bool) (v : Nat → Nat) (i : Nat) : md_mx m c v (i + 1) = if c i = true ∧ md_mx m c v i < v i then v i else md_mx m c v i := rfl
theorem md_mx_t {m : Nat} {c : Nat → Bool} {v : Nat → Nat} {i : Nat} (hc : c i = true) (h : md_mx m c v i < v i) : md_mx m c v (i + 1) = v i := (md_mx_s m c v i).trans (if_pos ⟨hc, h⟩)
theorem md_mx_f {m : Nat} {c : Nat → Bool} {v : Nat → Nat} {i : Nat} (hc : c i = false) : md_mx m c v (i + 1) = md_mx m c v i :=
  (md_mx_s m c v i).trans (if_neg (fun z => by rw [hc] at z; exact absurd z.1 (by decide)))
theorem md_mx_n {m : Nat} {c : Nat → Bool} {v : Nat → Nat} {i : Nat} (h : v i ≤ md_mx m c v i) : md_mx m c v (i + 1) = md_mx m c v i :=
  (md_mx_s m c v i).trans (if_neg (fun z => by have h2 := z.2; omega))
theorem md_mx_up (m : Nat) (c : Nat → Bool) (v : Nat → Nat) (i : Nat) : md_mx m c v i ≤ md_mx m c v (i + 1) := by
  rw [md_mx_s]
  split
  · omega
  · exact Nat.le_refl _
theorem md_mx_ge {m : Nat} {c : Nat → Bool} {v : Nat → Nat} : ∀ (n i : Nat), i < n → c i = true → v i ≤ md_mx m c v n := by
  intro n
  induction n with
  | zero => intro i hi; omega
  | succ n ih =>
    intro i hi hc
    rcases Nat.lt_or_ge i n with q | q
    · exact Nat.le_trans (ih i q hc) (md_mx_up m c v n)
    · have e : i = n := by omega
      rw [e] at hc ⊢
      rw [md_mx_s]
      split
      · exact Nat.le_refl _
      · rename_i z
        rcases Nat.lt_or_ge (md_mx m c v n) (v n) with y | y
        · exact absurd ⟨hc, y⟩ z
        · exact y
theorem md_mx_le {m : Nat} {c : Nat → Bool} {v : Nat → Nat} {b : Nat} (hm : m ≤ b) : ∀ (n : Nat), (∀ i, i < n → c i = true → v i ≤ b) → md_mx m c v n ≤ b := by
  intro n
  induction n with
  | zero => intro _; exact hm
  | succ n ih =>
    intro h
    rw [md_mx_s]
    split
    · rename_i z
      exact h n (Nat.lt_succ_self n) z.1
    · exact ih (fun i hi => h i (by omega))
theorem md_mx_ex {m : Nat} {c : Nat → Bool} {v : Nat → Nat} : ∀ (n : Nat), md_mx m c v n = m ∨ ∃ i, i < n ∧ c i = true ∧ md_mx m c v n = v i := by
  intro n
  induction n with
  | zero => exact Or.inl rfl
  | succ n ih =>
    rw [md_mx_s]
    split
    · rename_i z
      exact Or.inr ⟨n, Nat.lt_succ_self n, z.1, rfl⟩
    · rcases ih with e | ⟨i, hi, hc, e⟩
      · exact Or.inl e
      · exact Or.inr ⟨i, by omega, hc, e⟩
theorem md_mx_max (m : Nat) (c : Nat → Bool) (v : Nat → Nat) : ∀ (n : Nat), md_mx m c v n = if m < md_mx 0 c v n then md_mx 0 c v n else m := by
  intro n
  induction n with
  | zero =>
    show m = if m < 0 then 0 else m
    rw [if_neg (Nat.not_lt_zero m)]
  | succ n ih =>
    rw [md_mx_s, md_mx_s, ih]
    generalize md_mx 0 c v n = A
    by_cases hc : c n = true
    · by_cases h1 : m < A <;> by_cases h2 : A < v n <;> by_cases h3 : m < v n <;> simp [hc, h1, h2, h3] <;> omega
    · simp [hc]
theorem md_mx_no {m : Nat} {c : Nat → Bool} {v : Nat → Nat} : ∀ (n : Nat), (∀ i, i < n → c i = false) → md_mx m c v n = m := by
  intro n
  induction n with
  | zero => intro _; rfl
  | succ n ih =>
    intro h
    rw [md_mx_f (h n (Nat.lt_succ_self n))]
    exact ih (fun i hi => h i (by omega))
def md_all (P : Nat → Bool) : Nat → Bool
  | 0 => true
  | n + 1 => md_all P n && P n
theorem md_all_s (P : Nat → Bool) (n : Nat) : md_all P (n + 1) = (md_all P n && P n) := rfl
theorem md_all_iff {P : Nat → Bool} : ∀ (n : Nat), md_all P n = true ↔ ∀ i, i < n → P i = true := by
  intro n
  induction n with
  | zero => exact ⟨fun _ p hp => absurd hp (Nat.not_lt_zero p), fun _ => rfl⟩
  | succ n ih =>
    rw [md_all_s, Bool.and_eq_true, ih]
    constructor
    · intro h i hi
      rcases Nat.lt_or_ge i n with q | q
      · exact h.1 i q
      · have e : i = n := by omega
        rw [e]
        exact h.2
    · intro h
      exact ⟨fun i hi => h i (by omega), h n (Nat.lt_succ_self n)⟩
theorem md_all_no {P : Nat → Bool} {n i : Nat} (hi : i < n) (h : P i = false) : md_all P n = false := by
  cases e : md_all P n with
  | false => rfl
  | true =>
    have := (md_all_iff n).mp e i hi
    rw [h] at this
    exact absurd this (by decide)
end
section
/-! ===== exclusive-or, free sets, ranks ===== -/
def md_xo (V : Nat → Int32) (s : Nat) : Nat → Int32
  | 0 => 0
  | e + 1 => if md_bit s e = 1 then md_xo V s e ^^^ V e else md_xo V s e
def md_X (V : Nat → Int32) (s : Nat) : Int32 := md_xo V s 8
def md_fP (V : Nat → Int32) (s p : Nat) : Bool := !(decide (1 ≤ p ∧ md_X V p = 0 ∧ s &&& p = p))
def md_fb (V : Nat → Int32) (s : Nat) : Nat → Bool := md_all (md_fP V s)
def md_fr (V : Nat → Int32) (s : Nat) : Bool := md_fb V s 256
def md_Rc (V : Nat → Int32) (s : Nat) : Nat → Bool := fun p => md_fr V p && decide (s &&& p = p)
def md_R (V : Nat → Int32) (s : Nat) : Nat := md_mx 0 (md_Rc V s) md_sz 256
def md_raP (V : Nat → Int32) (s e : Nat) : Bool := !(decide (md_bit s e = 1) && !md_fr V (s ^^^ 2 ^ e))
def md_ra (V : Nat → Int32) (s : Nat) : Bool := md_all (md_raP V s) 8
theorem md_fr_iff {V : Nat → Int32} {s : Nat} : md_fr V s = true ↔ ∀ p, p < 256 → 1 ≤ p → md_X V p = 0 → ¬ s &&& p = p := by
  have h := md_all_iff (P := md_fP V s) 256
  constructor
  · intro e p hp a b c
    have h1 : (!(decide (1 ≤ p ∧ md_X V p = 0 ∧ s &&& p = p))) = true := h.mp e p hp
    rw [decide_eq_true (⟨a, b, c⟩ : 1 ≤ p ∧ md_X V p = 0 ∧ s &&& p = p)] at h1
    exact absurd h1 (by decide)
  · intro e
    apply h.mpr
    intro p hp
    show (!(decide (1 ≤ p ∧ md_X V p = 0 ∧ s &&& p = p))) = true
    have hd : decide (1 ≤ p ∧ md_X V p = 0 ∧ s &&& p = p) = false := decide_eq_false (fun z => e p hp z.1 z.2.1 z.2.2)
    rw [hd] <;> rfl
theorem md_fr_0 (V : Nat → Int32) : md_fr V 0 = true :=
  md_fr_iff.mpr (fun p _ h1 _ h3 => by rw [Nat.zero_and] at h3; omega)
theorem md_Rc_iff {V : Nat → Int32} {s p : Nat} : md_Rc V s p = true ↔ (md_fr V p = true ∧ s &&& p = p) := by
  show (md_fr V p && decide (s &&& p = p)) = true ↔ _
  rw [Bool.and_eq_true, decide_eq_true_iff]
theorem md_R_ge {V : Nat → Int32} {s p : Nat} (hp : p < 256) (hf : md_fr V p = true) (hs : s &&& p = p) : md_sz p ≤ md_R V s :=
  md_mx_ge (m := 0) (c := md_Rc V s) (v := md_sz) 256 p hp (md_Rc_iff.mpr ⟨hf, hs⟩)
theorem md_R_le {V : Nat → Int32} {s b : Nat} (h : ∀ p, p < 256 → md_fr V p = true → s &&& p = p → md_sz p ≤ b) : md_R V s ≤ b :=
  md_mx_le (m := 0) (c := md_Rc V s) (v := md_sz) (Nat.zero_le b) 256 (fun p hp hc => h p hp (md_Rc_iff.mp hc).1 (md_Rc_iff.mp hc).2)
theorem md_sz0 : md_sz 0 = 0 := by decide +kernel
theorem md_R_ex (V : Nat → Int32) (s : Nat) : ∃ p, p < 256 ∧ md_fr V p = true ∧ s &&& p = p ∧ md_R V s = md_sz p := by
  rcases md_mx_ex (m := 0) (c := md_Rc V s) (v := md_sz) 256 with e | ⟨p, hp, hc, e⟩
  · exact ⟨0, by omega, md_fr_0 V, Nat.and_zero s, e.trans md_sz0.symm⟩
  · exact ⟨p, hp, (md_Rc_iff.mp hc).1, (md_Rc_iff.mp hc).2, e⟩
theorem md_R_mono {V : Nat → Int32} {s t : Nat} (h : s &&& t = t) : md_R V t ≤ md_R V s :=
  md_R_le (fun _ hp hf hs => md_R_ge hp hf (md_sub_trans h hs))
theorem md_R_sz (V : Nat → Int32) (s : Nat) : md_R V s ≤ md_sz s := md_R_le (fun _ _ _ hs => md_sz_le hs)
theorem md_R8 (V : Nat → Int32) (s : Nat) : md_R V s ≤ 8 := Nat.le_trans (md_R_sz V s) (md_sz8 s)
theorem md_R255 (V : Nat → Int32) {s : Nat} (hs : s < 256) : md_R V s ≤ md_R V 255 := md_R_mono (md_sub_255 s hs)
theorem md_fr_step {V : Nat → Int32} {s : Nat} (hs : s < 256) : md_fr V s = true ↔ (s = 0 ∨ (¬ md_X V s = 0 ∧ ∀ e, e < 8 → md_bit s e = 1 → md_fr V (s ^^^ 2 ^ e) = true)) := by
  constructor
  · intro h
    have hf := md_fr_iff.mp h
    rcases Nat.eq_zero_or_pos s with z | z
    · exact Or.inl z
    · refine Or.inr ⟨fun x => hf s hs z x (md_self s), fun e _ hb => md_fr_iff.mpr (fun p hp h1 hx hsub => ?_)⟩
      exact hf p hp h1 hx (md_sub_trans (md_rest_sub hb) hsub)
  · intro h
    rcases h with z | ⟨hx, hr⟩
    · rw [z]
      exact md_fr_0 V
    · refine md_fr_iff.mpr (fun p hp h1 hx2 hsub => ?_)
      by_cases q : p = s
      · rw [q] at hx2
        exact hx hx2
      · obtain ⟨e, he, hb, hsub2⟩ := md_prop hs hsub q
        exact md_fr_iff.mp (hr e he hb) p hp h1 hx2 hsub2
theorem md_fr_R {V : Nat → Int32} {s : Nat} (hs : s < 256) : md_fr V s = true ↔ md_R V s = md_sz s := by
  constructor
  · intro h
    exact Nat.le_antisymm (md_R_sz V s) (md_R_ge hs h (md_self s))
  · intro h
    obtain ⟨p, hp, hf, hsub, e⟩ := md_R_ex V s
    by_cases q : p = s
    · rw [← q]
      exact hf
    · obtain ⟨i, hi, hb, hsub2⟩ := md_prop hs hsub q
      have h1 := md_sz_le hsub2
      have h2 := (md_rest_tab s hs i hi hb).2
      omega
theorem md_ra_iff {V : Nat → Int32} {s : Nat} : md_ra V s = true ↔ ∀ e, e < 8 → md_bit s e = 1 → md_fr V (s ^^^ 2 ^ e) = true := by
  have h := md_all_iff (P := md_raP V s) 8
  constructor
  · intro a e he hb
    have h1 : (!(decide (md_bit s e = 1) && !md_fr V (s ^^^ 2 ^ e))) = true := h.mp a e he
    rw [decide_eq_true hb, Bool.true_and, Bool.not_not] at h1
    exact h1
  · intro a
    apply h.mpr
    intro e he
    show (!(decide (md_bit s e = 1) && !md_fr V (s ^^^ 2 ^ e))) = true
    by_cases hb : md_bit s e = 1
    · rw [a e he hb, Bool.not_true, Bool.and_false] <;> rfl
    · rw [decide_eq_false hb, Bool.false_and] <;> rfl
def md_grc (s e : Nat) : Bool := decide (md_bit s e = 1)
def md_grv (V : Nat → Int32) (s e : Nat) : Nat := md_R V (s ^^^ 2 ^ e)
def md_gr (V : Nat → Int32) (s : Nat) : Nat → Nat := md_mx 0 (md_grc s) (md_grv V s)
theorem md_stepA {V : Nat → Int32} {s : Nat} (hs : s < 256) (hx : ¬ md_X V s = 0) (hr : md_ra V s = true) : md_R V s = md_sz s :=
  (md_fr_R hs).mp ((md_fr_step hs).mpr (Or.inr ⟨hx, md_ra_iff.mp hr⟩))
theorem md_stepB {V : Nat → Int32} {s : Nat} (hs : s < 256) (h : md_X V s = 0 ∨ md_ra V s = false) : md_R V s = md_gr V s 8 := by
  have hge : md_gr V s 8 ≤ md_R V s := by
    refine md_mx_le (m := 0) (c := md_grc s) (v := md_grv V s) (Nat.zero_le _) 8 (fun e he hc => ?_)
    have hb : md_bit s e = 1 := of_decide_eq_true hc
    show md_R V (s ^^^ 2 ^ e) ≤ md_R V s
    exact md_R_mono (md_rest_sub hb)
  rcases Nat.eq_zero_or_pos s with z | z
  · have h1 := md_R_sz V s
    rw [z, md_sz0] at h1
    rw [z] at hge ⊢
    omega
  · refine Nat.le_antisymm (md_R_le (fun p hp hf hsub => ?_)) hge
    have hn : ¬ md_fr V s = true := by
      intro hfs
      rcases (md_fr_step hs).mp hfs with y | ⟨hx, hr⟩
      · omega
      · rcases h with y | y
        · exact hx y
        · rw [md_ra_iff.mpr hr] at y
          exact absurd y (by decide)
    have q : p ≠ s := fun q => hn (by rw [← q]; exact hf)
    obtain ⟨e, he, hb, hsub2⟩ := md_prop hs hsub q
    have h1 : md_sz p ≤ md_R V (s ^^^ 2 ^ e) := md_R_ge hp hf hsub2
    have h2 : md_R V (s ^^^ 2 ^ e) ≤ md_gr V s 8 := md_mx_ge (m := 0) (c := md_grc s) (v := md_grv V s) 8 e he (decide_eq_true hb)
    exact Nat.le_trans h1 h2
theorem md_xo0 (s : Nat) : ∀ e, md_xo (fun _ => 0) s e = 0 := by
  intro e
  induction e with
  | zero => rfl
  | succ e ih =>
    show (if md_bit s e = 1 then md_xo (fun _ => 0) s e ^^^ 0 else md_xo (fun _ => 0) s e) = 0
    rw [ih]
    split
    · decide
    · rfl
theorem md_R0 (s : Nat) : md_R (fun _ => 0) s = 0 := by
  refine Nat.le_antisymm (md_R_le (fun p hp hf _ => ?_)) (Nat.zero_le _)
  rcases Nat.eq_zero_or_pos p with z | z
  · rw [z, md_sz0]
    exact Nat.le_refl 0
  · exact absurd (md_self p) (md_fr_iff.mp hf p hp z (md_xo0 p 8))
/-! ===== what the methods answer ===== -/
def md_bI (b : Bool) : Int32 := if b = true then 1 else 0
theorem md_bI_t {b : Bool} (h : b = true) : md_bI b = 1 := by subst h; rfl
theorem md_bI_f {b : Bool} (h : b = false) : md_bI b = 0 := by subst h; rfl
theorem md_bI_n (b : Bool) : narrow .boolean (.int (md_bI b)) = .int (md_bI b) := by cases b <;> rfl
theorem md_bI_0 {b : Bool} : md_bI b = 0 ↔ b = false := by cases b <;> decide
theorem md_bI_1 {b : Bool} : md_bI b = 1 ↔ b = true := by cases b <;> decide
def md_cl (V : Nat → Int32) (s : Nat) : Nat → Int32
  | 0 => 0
  | e + 1 => if md_R V (s ||| 2 ^ e) = md_R V s then md_cl V s e ||| nI (2 ^ e) else md_cl V s e
def md_ct (c : Nat → Bool) : Nat → Int32
  | 0 => 0
  | i + 1 => if c i = true then md_ct c i + 1 else md_ct c i
def md_ba (V : Nat → Int32) (s : Nat) : Bool := md_fr V s && decide (md_sz s = md_R V 255)
def md_ci (V : Nat → Int32) (s : Nat) : Bool := !md_fr V s && md_ra V s
def md_pw (b : Int32) : Nat → Int32
  | 0 => 1
  | n + 1 => md_pw b n * b
theorem md_pw_s (b : Int32) (n : Nat) : md_pw b (n + 1) = md_pw b n * b := rfl
def md_po (V : Nat → Int32) (x y : Int32) : Nat → Int32
  | 0 => 0
  | i + 1 => md_po V x y i + md_pw (x - 1) (md_R V 255 - md_R V i) * md_pw (y - 1) (md_sz i - md_R V i)
def md_sn (C : Nat → Int32) (s : Nat) : Nat → Int32
  | 0 => 0
  | e + 1 => if md_bit s e = 1 then md_sn C s e ||| ((1 : Int32) <<< (C e &&& 31)) else md_sn C s e
def md_dcP (C : Nat → Int32) (s e : Nat) : Bool := !(decide (md_bit s e = 1 ∧ ¬ (md_sn C s e &&& ((1 : Int32) <<< (C e &&& 31))) = 0))
def md_dc (C : Nat → Int32) (s : Nat) : Bool := md_all (md_dcP C s) 8
def md_rc (V C : Nat → Int32) (s : Nat) : Bool := md_fr V s && md_dc C s
def md_rb (V C : Nat → Int32) : Nat := md_mx 0 (md_rc V C) md_sz 256
theorem md_rc_f1 {V C : Nat → Int32} {s : Nat} (h : md_fr V s = false) : md_rc V C s = false := by
  unfold md_rc
  rw [h, Bool.false_and]
theorem md_rc_f2 {V C : Nat → Int32} {s : Nat} (h : md_dc C s = false) : md_rc V C s = false := by
  unfold md_rc
  rw [h, Bool.and_false]
theorem md_rc_t {V C : Nat → Int32} {s : Nat} (h : md_fr V s = true) (h2 : md_dc C s = true) : md_rc V C s = true := by
  unfold md_rc
  rw [h, h2] <;> rfl
def md_sw (W : Nat → Int32) (s : Nat) : Nat → Int32
  | 0 => 0
  | e + 1 => if md_bit s e = 1 then md_sw W s e + W e else md_sw W s e
def md_hv (b : Int32) (c : Nat → Bool) (w : Nat → Int32) : Nat → Int32
  | 0 => b
  | i + 1 => if c i = true ∧ md_hv b c w i < w i then w i else md_hv b c w i
def md_ub (V : Nat → Int32) (a b : Nat) : Bool := md_fr V a && md_fr V b
def md_uv (a b : Nat) : Nat := md_sz (a ||| b)
def md_G (V : Nat → Int32) (a : Nat) : Nat := md_mx 0 (md_fr V) (md_uv a) 256
def md_un (V : Nat → Int32) : Nat → Nat
  | 0 => 0
  | a + 1 => md_mx (md_un V a) (md_ub V a) (md_uv a) 256
theorem md_un_s (V : Nat → Int32) (a : Nat) : md_un V (a + 1) = md_mx (md_un V a) (md_ub V a) (md_uv a) 256 := rfl
theorem md_un_eq (V : Nat → Int32) : ∀ n, md_un V n = md_mx 0 (md_fr V) (md_G V) n := by
  intro n
  induction n with
  | zero => rfl
  | succ n ih =>
    rw [md_un_s, md_mx_s 0 (md_fr V) (md_G V) n, ih]
    generalize md_mx 0 (md_fr V) (md_G V) n = m
    cases h : md_fr V n with
    | false =>
      have e : md_mx m (md_ub V n) (md_uv n) 256 = m := md_mx_no 256 (fun i _ => by unfold md_ub; rw [h, Bool.false_and])
      rw [e]
      simp
    | true =>
      have e : md_ub V n = md_fr V := funext (fun b => by unfold md_ub; rw [h, Bool.true_and])
      rw [e, md_mx_max m]
      show (if m < md_G V n then md_G V n else m) = _
      simp
theorem md_ba_ex (V : Nat → Int32) : ∃ s, s < 256 ∧ md_ba V s = true := by
  obtain ⟨p, hp, hf, _, e⟩ := md_R_ex V 255
  exact ⟨p, hp, by unfold md_ba; rw [hf, decide_eq_true e.symm] <;> rfl⟩
theorem md_sw_b {W : Nat → Int32} (hW : ∀ e, e < 8 → -100 ≤ (W e).toInt ∧ (W e).toInt ≤ 100) (s : Nat) : ∀ n : Nat, n ≤ 8 → -(100 * (n : Int)) ≤ (md_sw W s n).toInt ∧ (md_sw W s n).toInt ≤ 100 * (n : Int) := by
  intro n
  induction n with
  | zero =>
    intro _
    show -(100 * ((0 : Nat) : Int)) ≤ (0 : Int32).toInt ∧ (0 : Int32).toInt ≤ 100 * ((0 : Nat) : Int)
    decide
  | succ n ih =>
    intro h
    have h1 := ih (by omega)
    have h2 := hW n (by omega)
    by_cases hb : md_bit s n = 1
    · have e0 : md_sw W s (n + 1) = md_sw W s n + W n := if_pos hb
      have e : (md_sw W s n + W n).toInt = (md_sw W s n).toInt + (W n).toInt := by
        rw [Int32.toInt_add]
        exact Int.bmod_eq_of_le (by omega) (by omega)
      rw [e0, e]
      exact ⟨by omega, by omega⟩
    · have e0 : md_sw W s (n + 1) = md_sw W s n := if_neg hb
      rw [e0]
      exact ⟨by omega, by omega⟩
theorem md_sw_gt {W : Nat → Int32} (hW : ∀ e, e < 8 → -100 ≤ (W e).toInt ∧ (W e).toInt ≤ 100) (s : Nat) : (-801 : Int32) < md_sw W s 8 ∧ (-1000 : Int32) < md_sw W s 8 := by
  have h := (md_sw_b hW s 8 (Nat.le_refl 8)).1
  rw [Int32.lt_iff_toInt_lt, Int32.lt_iff_toInt_lt, show (-801 : Int32).toInt = -801 from by decide, show (-1000 : Int32).toInt = -1000 from by decide]
  omega
theorem md_hv_eq {c : Nat → Bool} {w : Nat → Int32} (hw : ∀ i, (-801 : Int32) < w i ∧ (-1000 : Int32) < w i) : ∀ n, md_hv (-801) c w n = md_hv (-1000) c w n ∨ (md_hv (-801) c w n = -801 ∧ md_hv (-1000) c w n = -1000 ∧ ∀ i, i < n → c i = false) := by
  intro n
  induction n with
  | zero => exact Or.inr ⟨rfl, rfl, fun i hi => absurd hi (Nat.not_lt_zero i)⟩
  | succ n ih =>
    have e1 : ∀ b, md_hv b c w (n + 1) = if c n = true ∧ md_hv b c w n < w n then w n else md_hv b c w n := fun _ => rfl
    rw [e1, e1]
    cases hc : c n with
    | false =>
      have f : ∀ b, (if false = true ∧ md_hv b c w n < w n then w n else md_hv b c w n) = md_hv b c w n := fun b => if_neg (fun z => absurd z.1 (by decide))
      rw [f, f]
      rcases ih with e | ⟨a, b, d⟩
      · exact Or.inl e
      · refine Or.inr ⟨a, b, fun i hi => ?_⟩
        rcases Nat.lt_or_ge i n with q | q
        · exact d i q
        · have e : i = n := by omega
          rw [e]
          exact hc
    | true =>
      rcases ih with e | ⟨a, b, d⟩
      · rw [e]
        exact Or.inl rfl
      · have g1 : (if true = true ∧ (-801 : Int32) < w n then w n else -801) = w n := if_pos ⟨rfl, (hw n).1⟩
        have g2 : (if true = true ∧ (-1000 : Int32) < w n then w n else -1000) = w n := if_pos ⟨rfl, (hw n).2⟩
        rw [a, b, g1, g2]
        exact Or.inl rfl
def md_he (V W : Nat → Int32) : Int32 := md_hv (-801) (md_ba V) (fun s => md_sw W s 8) 256
theorem md_he_eq {V W : Nat → Int32} (hW : ∀ e, e < 8 → -100 ≤ (W e).toInt ∧ (W e).toInt ≤ 100) : md_hv (-1000) (md_ba V) (fun s => md_sw W s 8) 256 = md_he V W := by
  rcases md_hv_eq (c := md_ba V) (w := fun s => md_sw W s 8) (fun s => md_sw_gt hW s) 256 with e | ⟨_, _, d⟩
  · exact e.symm
  · obtain ⟨s, hs, hb⟩ := md_ba_ex V
    rw [d s hs] at hb
    exact absurd hb (by decide)
theorem md_G8 (V : Nat → Int32) (a : Nat) : md_G V a ≤ 8 := md_mx_le (m := 0) (c := md_fr V) (v := md_uv a) (Nat.zero_le 8) 256 (fun b _ _ => md_sz8 (a ||| b))
end
section
/-! ===== the same as int arithmetic ===== -/
theorem md_or (a b : Nat) : nI a ||| nI b = nI (a ||| b) := by
  apply Int32.toBitVec_inj.1
  show BitVec.ofNat 32 a ||| BitVec.ofNat 32 b = BitVec.ofNat 32 (a ||| b)
  apply BitVec.eq_of_getLsbD_eq
  intro i hi
  simp [hi]
theorem md_shr {s e : Nat} (hs : s < 256) (he : e < 8) : nI s >>> (nI e &&& 31) &&& 1 = nI (md_bit s e) := by
  have h1 : s / 2 ^ e ≤ s := Nat.div_le_self _ _
  rw [pk_shrN (n := s) (by omega) (nI e &&& 31) e (s_l e (by omega)), pk_andN (n := s / 2 ^ e) (by omega) (m := 1) 1 (by decide)] <;> rfl
theorem md_shl : ∀ e, e < 8 → (1 : Int32) <<< (nI e &&& 31) = nI (2 ^ e) := by decide +kernel
theorem md_p256 : ∀ e, e < 8 → 2 ^ e < 256 := by decide +kernel
theorem md_or256 {a b : Nat} (ha : a < 256) (hb : b < 256) : a ||| b < 256 := Nat.or_lt_two_pow (n := 8) ha hb
theorem md_xor256 {a b : Nat} (ha : a < 256) (hb : b < 256) : a ^^^ b < 256 := Nat.xor_lt_two_pow (n := 8) ha hb
theorem md_xr {s e : Nat} (he : e < 8) : nI s ^^^ ((1 : Int32) <<< (nI e &&& 31)) = nI (s ^^^ 2 ^ e) := by rw [md_shl e he, nx_xor]
theorem md_orr {s e : Nat} (he : e < 8) : nI s ||| ((1 : Int32) <<< (nI e &&& 31)) = nI (s ||| 2 ^ e) := by rw [md_shl e he, md_or]
theorem md_cmp : ∀ s, s < 256 → ∀ e, e < 8 → md_bit s e = 1 → nI s &&& (((1 : Int32) <<< (nI e &&& 31)) ^^^ (-1)) = nI (s ^^^ 2 ^ e) := by decide +kernel
theorem md_n01 {s e : Nat} : nI (md_bit s e) = 0 ↔ ¬ md_bit s e = 1 := by
  rcases md_bit01 s e with h | h
  · rw [h]
    exact ⟨fun _ => by omega, fun _ => rfl⟩
  · rw [h]
    exact ⟨fun z => absurd z (by decide), fun z => absurd rfl z⟩
theorem md_n11 {s e : Nat} : nI (md_bit s e) = 1 ↔ md_bit s e = 1 := by
  rcases md_bit01 s e with h | h
  · rw [h]
    exact ⟨fun z => absurd z (by decide), fun z => absurd z (by decide)⟩
  · rw [h]
    exact ⟨fun _ => rfl, fun _ => rfl⟩
theorem md_b1 : ∀ i, i < 32 → bt 1 i = decide (i = 0) := by decide +kernel
theorem md_bs : ∀ c, c < 8 → ∀ i, i < 32 → bt ((1 : Int32) <<< (nI c &&& 31)) i = decide (i = c) := by decide +kernel
theorem md_seen (x : Int32) {c : Nat} (hc : c < 8) : (x &&& ((1 : Int32) <<< (nI c &&& 31))) = 0 ↔ ¬ (x >>> (nI c &&& 31) &&& 1 = 1) := by
  have hb : ∀ i, i < 32 → bt (x >>> (nI c &&& 31) &&& 1) i = ((if c + i < 32 then bt x (c + i) else bt x 31) && decide (i = 0)) := by
    intro i hi
    rw [b_and, b_sshr c (by omega) x hi, md_b1 i hi]
  have ha : ∀ i, i < 32 → bt (x &&& ((1 : Int32) <<< (nI c &&& 31))) i = (bt x i && decide (i = c)) := by
    intro i hi
    rw [b_and, md_bs c hc i hi]
  have h32 : c < 32 := by omega
  cases e : bt x c with
  | true =>
    constructor
    · intro z
      have h := ha c (by omega)
      rw [z, b_0, e] at h
      simp at h
    · intro z
      exfalso
      apply z
      apply b_ext
      intro i hi
      rw [hb i hi, md_b1 i hi]
      by_cases q : i = 0
      · simp [q, h32, e]
      · rw [decide_eq_false q, Bool.and_false]
  | false =>
    constructor
    · intro _ z
      have h := hb 0 (by omega)
      rw [z, md_b1 0 (by omega), Nat.add_zero, if_pos h32, e] at h
      simp at h
    · intro _
      apply b_ext
      intro i hi
      rw [ha i hi, b_0]
      by_cases q : i = c
      · simp [q, e]
      · rw [decide_eq_false q, Bool.and_false]
theorem md_n8 : (8 : Int32) = nI 8 := by decide +kernel
theorem md_n256 : (256 : Int32) = nI 256 := by decide +kernel
theorem md_vb0 : vp_nar .boolean 0 = 0 := rfl
theorem md_vb1 : vp_nar .boolean 1 = 1 := rfl
theorem md_le8 : (8 : Int32) ≤ nI 8 := by decide +kernel
theorem md_le256 : (256 : Int32) ≤ nI 256 := by decide +kernel
theorem md_nle8 {i : Nat} (h : i < 8) : ¬ (8 : Int32) ≤ nI i := nI_ge (b := 8) h (by decide)
theorem md_nle256 {i : Nat} (h : i < 256) : ¬ (256 : Int32) ≤ nI i := nI_ge (b := 256) h (by decide)
theorem md_cl8 {i : Nat} (h : i < 8) : (nI i).toNatClampNeg = i := nI_clamp (by omega)
theorem md_cl256 {i : Nat} (h : i < 256) : (nI i).toNatClampNeg = i := nI_clamp (by omega)
theorem md_in8 {i : Nat} (h : i < 8) : vp_in (nI i) 8 := vp_in_nI h (by omega)
theorem md_in256 {i : Nat} (h : i < 256) : vp_in (nI i) 256 := vp_in_nI h (by omega)
theorem md_rest256 {s e : Nat} (hs : s < 256) (he : e < 8) : s ^^^ 2 ^ e < 256 := md_xor256 hs (md_p256 e he)
theorem md_ex7 (x : Int32) : ∃ j, j < 8 ∧ x &&& 7 = nI j := pk_andE x 3 (by decide)
theorem md_ex255 (x : Int32) : ∃ j, j < 256 ∧ x &&& 255 = nI j := pk_andE x 8 (by decide)
theorem md_le_n {a b : Nat} (ha : a ≤ 8) (hb : b ≤ 8) : nI a ≤ nI b ↔ a ≤ b := nI_leI (by omega) (by omega)
theorem md_lt_n {a b : Nat} (ha : a ≤ 8) (hb : b ≤ 8) : nI a < nI b ↔ a < b := nI_ltI (by omega) (by omega)
theorem md_eq_n {a b : Nat} (ha : a ≤ 8) (hb : b ≤ 8) : nI a = nI b ↔ a = b := nI_eq (by omega) (by omega)
theorem md_mx8 {c : Nat → Bool} {v : Nat → Nat} (hv : ∀ i, v i ≤ 8) (n : Nat) : md_mx 0 c v n ≤ 8 := md_mx_le (Nat.zero_le 8) n (fun i _ _ => hv i)
theorem md_fb_s (V : Nat → Int32) (t n : Nat) : md_fb V t (n + 1) = (md_fb V t n && md_fP V t n) := rfl
theorem md_fb_k {V : Nat → Int32} {t n : Nat} (h : ¬ (1 ≤ n ∧ md_X V n = 0 ∧ t &&& n = n)) : md_fb V t (n + 1) = md_fb V t n := by
  have hd : md_fP V t n = true := congrArg not (decide_eq_false h)
  rw [md_fb_s, hd, Bool.and_true]
theorem md_fb_z {V : Nat → Int32} {t n : Nat} (h1 : 1 ≤ n) (h2 : md_X V n = 0) (h3 : t &&& n = n) : md_fb V t (n + 1) = false := by
  have hz : 1 ≤ n ∧ md_X V n = 0 ∧ t &&& n = n := ⟨h1, h2, h3⟩
  have hd : md_fP V t n = false := congrArg not (decide_eq_true hz)
  rw [md_fb_s, hd, Bool.and_false]
theorem md_fb_1 (V : Nat → Int32) (t : Nat) : md_fb V t 1 = true := by
  have h : ¬ (1 ≤ 0 ∧ md_X V 0 = 0 ∧ t &&& 0 = 0) := fun z => absurd z.1 (by decide)
  exact md_fb_k h
theorem md_dcP_f {C : Nat → Int32} {s e : Nat} (hb : md_bit s e = 1) (h : ¬ (md_sn C s e &&& ((1 : Int32) <<< (C e &&& 31))) = 0) : md_dcP C s e = false := by
  have hz : md_bit s e = 1 ∧ ¬ (md_sn C s e &&& ((1 : Int32) <<< (C e &&& 31))) = 0 := ⟨hb, h⟩
  exact congrArg not (decide_eq_true hz)
theorem md_dcP_t {C : Nat → Int32} {s e : Nat} (h : ¬ (md_bit s e = 1 ∧ ¬ (md_sn C s e &&& ((1 : Int32) <<< (C e &&& 31))) = 0)) : md_dcP C s e = true :=
  congrArg not (decide_eq_false h)
theorem md_raP_f {U : Nat → Int32} {s e : Nat} (hb : md_bit s e = 1) (h : md_fr U (s ^^^ 2 ^ e) = false) : md_raP U s e = false := by
  unfold md_raP
  rw [decide_eq_true hb, h] <;> rfl
theorem md_raP_t {U : Nat → Int32} {s e : Nat} (h : md_fr U (s ^^^ 2 ^ e) = true) : md_raP U s e = true := by
  unfold md_raP
  rw [h, Bool.not_true, Bool.and_false] <;> rfl
theorem md_raP_n {U : Nat → Int32} {s e : Nat} (hb : ¬ md_bit s e = 1) : md_raP U s e = true := by
  unfold md_raP
  rw [decide_eq_false hb, Bool.false_and] <;> rfl
theorem md_all_t {P : Nat → Bool} {n : Nat} (h : md_all P n = true) (hn : P n = true) : md_all P (n + 1) = true := by
  rw [md_all_s, h, hn] <;> rfl
theorem md_ba_f {U : Nat → Int32} {s : Nat} (h : md_fr U s = false) : md_ba U s = false := by
  unfold md_ba
  rw [h, Bool.false_and]
theorem md_ba_t {U : Nat → Int32} {s : Nat} (h : md_fr U s = true) (e : md_sz s = md_R U 255) : md_ba U s = true := by
  unfold md_ba
  rw [h, decide_eq_true e] <;> rfl
theorem md_ba_n {U : Nat → Int32} {s : Nat} (e : ¬ md_sz s = md_R U 255) : md_ba U s = false := by
  unfold md_ba
  rw [decide_eq_false e, Bool.and_false]
theorem md_ci_f {U : Nat → Int32} {s : Nat} (h : md_fr U s = true) : md_ci U s = false := by
  unfold md_ci
  rw [h, Bool.not_true, Bool.false_and]
theorem md_ci_r {U : Nat → Int32} {s : Nat} (h : md_fr U s = false) : md_ci U s = md_ra U s := by
  unfold md_ci
  rw [h, Bool.not_false, Bool.true_and]
theorem md_ct_t {c : Nat → Bool} {i : Nat} (h : c i = true) : md_ct c (i + 1) = md_ct c i + 1 := if_pos h
theorem md_ct_f {c : Nat → Bool} {i : Nat} (h : c i = false) : md_ct c (i + 1) = md_ct c i := if_neg (fun z => by rw [h] at z; exact absurd z (by decide))
theorem md_hv_t {b : Int32} {c : Nat → Bool} {w : Nat → Int32} {i : Nat} (h : c i = true) (hw : md_hv b c w i < w i) : md_hv b c w (i + 1) = w i := if_pos ⟨h, hw⟩
theorem md_hv_f {b : Int32} {c : Nat → Bool} {w : Nat → Int32} {i : Nat} (h : c i = false) : md_hv b c w (i + 1) = md_hv b c w i := if_neg (fun z => by rw [h] at z; exact absurd z.1 (by decide))
theorem md_hv_n {b : Int32} {c : Nat → Bool} {w : Nat → Int32} {i : Nat} (hw : ¬ md_hv b c w i < w i) : md_hv b c w (i + 1) = md_hv b c w i := if_neg (fun z => hw z.2)
theorem md_c255 : (255 : Int32).toNatClampNeg = 255 := by decide +kernel
theorem md_i255 : vp_in 255 256 := vp_in_nI (n := 255) (by omega) (by omega)
theorem md_po_s (V : Nat → Int32) (x y : Int32) (i : Nat) : md_po V x y (i + 1) = md_po V x y i + md_pw (x - 1) (md_R V 255 - md_R V i) * md_pw (y - 1) (md_sz i - md_R V i) := rfl
theorem md_eq256 {a b : Nat} (ha : a < 256) (hb : b < 256) : nI a = nI b ↔ a = b := nI_eq (by omega) (by omega)
theorem md_and256 {a b : Nat} (ha : a < 256) : a &&& b < 256 := Nat.lt_of_le_of_lt Nat.and_le_left ha
end
section
/-! ===== the class: private methods ===== -/
theorem xa_size {post : Int32 → Prop} {s : Nat} (hs : s < 256) (hp : post (nI (md_sz s))) : wpX_size post (nI s) := by
  refine loop_0 (fun n i a => wX_size_4 post (nI s) n a (nI i)) (fun i a => a = nI (md_szu s i)) 8 0 rfl (fun n a (ha : a = nI (md_szu s 8)) => br_t md_le8 (by rw [ha]; exact hp)) (fun n i a hi (ha : a = nI (md_szu s i)) k => ?_)
  refine br_f (md_nle8 hi) (nm_r (e' := nI (md_szu s (i + 1))) ?_ (nm_r (nI_1 i) (k _ rfl)))
  rw [ha, md_shr hs hi, nI_add, md_szu_s]
theorem xa_has {post : Int32 → Prop} {s e : Nat} (hs : s < 256) (he : e < 8) (hp : post (nI (md_bit s e))) : wpX_has post (nI s) (nI e) := by
  unfold wpX_has
  rw [md_shr hs he]
  rcases md_bit01 s e with h | h
  · rw [h] at hp ⊢
    exact br_t rfl hp
  · rw [h] at hp ⊢
    exact br_f (by decide) hp
theorem xa_pow {post : Int32 → Prop} {b : Int32} {m : Nat} (hm : m ≤ 8) (hp : post (md_pw b m)) : wpX_power post b (nI m) := by
  refine loop_0 (fun n i a => wX_power_4 post b (nI m) n a (nI i)) (fun i a => a = md_pw b i) m 1 rfl (fun n a (ha : a = md_pw b m) => br_t (nI_le (Nat.le_refl m) (by omega)) (by rw [ha]; exact hp)) (fun n i a hi (ha : a = md_pw b i) k => ?_)
  refine br_f (nI_ge hi (by omega)) (nm_r (e' := md_pw b (i + 1)) ?_ (nm_r (nI_1 i) (k _ rfl)))
  rw [ha, md_pw_s]
section
variable {V C W Q U : Nat → Int32} {post : Int32 → Prop} {s : Nat}
theorem xa_xor (hs : s < 256) (hp : post (md_X V s)) : wpX_exclusiveOr post (V, C, W, Q) (nI s) := by
  refine loop_0 (fun n i a => wX_exclusiveOr_4 post (nI s) V C W Q n a (nI i)) (fun i a => a = md_xo V s i) 8 0 rfl (fun n a (ha : a = md_xo V s 8) => br_t md_le8 (by rw [ha]; exact hp)) (fun n i a hi (ha : a = md_xo V s i) k => ?_)
  refine br_f (md_nle8 hi) (xa_has hs hi ?_)
  by_cases hb : md_bit s i = 1
  · refine br_f (fun z => md_n01.mp z hb) ⟨md_in8 hi, nm_r (e' := md_xo V s (i + 1)) ?_ (nm_r (nI_1 i) (k _ rfl))⟩
    rw [ha, md_cl8 hi]
    exact (if_pos hb).symm
  · refine br_t (md_n01.mpr hb) (nm_r (nI_1 i) (k _ ?_))
    rw [ha]
    exact (if_neg hb).symm
theorem xa_ind (hs : s < 256) (hq : Q s = nI (md_R U s)) (hp : post (md_bI (md_fr U s))) : wpX_isIndependent post (V, C, W, Q) (nI s) := by
  unfold wpX_isIndependent
  dsimp only
  refine ⟨md_in256 hs, xa_size hs ?_⟩
  rw [md_cl256 hs, hq]
  by_cases h : md_fr U s = true
  · refine br_t (by rw [(md_fr_R hs).mp h]) ?_
    rw [md_bI_t h] at hp
    exact hp
  · refine br_f (fun z => h ((md_fr_R hs).mpr ((md_eq_n (md_R8 U s) (md_sz8 s)).mp z))) ?_
    rw [md_bI_f (Bool.eq_false_iff.mpr h)] at hp
    exact hp
theorem xa_rai (hs : s < 256) (hq : ∀ t, t < s → Q t = nI (md_R U t)) (hp : post (md_bI (md_ra U s))) : wpX_restsAreIndependent post (V, C, W, Q) (nI s) := by
  refine loop_0 (fun n i (_ : Unit) => wX_restsAreIndependent_2 post (nI s) V C W Q n (nI i)) (fun i _ => md_all (md_raP U s) i = true) 8 () rfl (fun n _ ha => br_t md_le8 (by rw [md_bI_t (b := md_ra U s) ha] at hp; exact hp)) (fun n i _ hi ha k => ?_)
  refine br_f (md_nle8 hi) (xa_has hs hi ?_)
  by_cases hb : md_bit s i = 1
  · have hl := (md_rest_tab s hs i hi hb).1
    refine br_f (fun z => md_n01.mp z hb) (nm_r (md_xr hi) (xa_ind (U := U) (by omega) (hq _ hl) ?_))
    cases hf : md_fr U (s ^^^ 2 ^ i) with
    | false =>
      have h0 : md_ra U s = false := md_all_no hi (md_raP_f hb hf)
      rw [md_bI_f h0] at hp
      exact br_t rfl hp
    | true =>
      refine br_f (by decide) (nm_r (nI_1 i) (k () ?_))
      exact md_all_t ha (md_raP_t hf)
  · refine br_t (md_n01.mpr hb) (nm_r (nI_1 i) (k () ?_))
    exact md_all_t ha (md_raP_n hb)
theorem xa_grr (hs : s < 256) (hq : ∀ t, t < s → Q t = nI (md_R U t)) (hp : post (nI (md_gr U s 8))) : wpX_greatestRankOfRests post (V, C, W, Q) (nI s) := by
  refine loop_0 (fun n i a => wX_greatestRankOfRests_4 post (nI s) V C W Q n a (nI i)) (fun i a => a = nI (md_gr U s i)) 8 0 rfl (fun n a (ha : a = nI (md_gr U s 8)) => br_t md_le8 (by rw [ha]; exact hp)) (fun n i a hi (ha : a = nI (md_gr U s i)) k => ?_)
  refine br_f (md_nle8 hi) (xa_has hs hi ?_)
  by_cases hb : md_bit s i = 1
  · have hl := (md_rest_tab s hs i hi hb).1
    have hl2 : s ^^^ 2 ^ i < 256 := by omega
    refine br_f (fun z => md_n01.mp z hb) (nm_r (md_xr hi) ⟨md_in256 hl2, ?_⟩)
    rw [md_cl256 hl2, hq _ hl, ha]
    have h8 : md_gr U s i ≤ 8 := md_mx8 (fun e => md_R8 U (s ^^^ 2 ^ e)) i
    by_cases h : md_R U (s ^^^ 2 ^ i) ≤ md_gr U s i
    · refine br_t ((md_le_n (md_R8 U _) h8).mpr h) (nm_r (nI_1 i) (k _ ?_))
      exact congrArg nI (md_mx_n (c := md_grc s) (v := md_grv U s) h).symm
    · refine br_f (fun z => h ((md_le_n (md_R8 U _) h8).mp z)) ⟨md_in256 hl2, nm_r (e' := nI (md_gr U s (i + 1))) ?_ (nm_r (nI_1 i) (k _ rfl))⟩
      exact congrArg nI (md_mx_t (c := md_grc s) (v := md_grv U s) (decide_eq_true hb) (Nat.lt_of_not_le h)).symm
  · refine br_t (md_n01.mpr hb) (nm_r (nI_1 i) (k _ ?_))
    rw [ha]
    exact congrArg nI (md_mx_f (c := md_grc s) (v := md_grv U s) (decide_eq_false hb)).symm
theorem xa_rfs (hs : s < 256) (hq : ∀ t, t < s → Q t = nI (md_R V t)) (hp : post (nI (md_R V s))) : wpX_rankFromSmallerSets post (V, C, W, Q) (nI s) := by
  have hB : (md_X V s = 0 ∨ md_ra V s = false) → wX_rankFromSmallerSets_20 post (nI s) V C W Q := by
    intro h
    unfold wX_rankFromSmallerSets_20 wX_rankFromSmallerSets_21
    refine br_t rfl (xa_grr (U := V) hs hq ?_)
    rw [← md_stepB hs h]
    exact hp
  unfold wpX_rankFromSmallerSets
  dsimp only
  refine xa_xor hs ?_
  by_cases hx : md_X V s = 0
  · exact br_t hx (hB (Or.inl hx))
  · refine br_f hx (xa_rai (U := V) hs hq ?_)
    cases hr : md_ra V s with
    | false => exact br_t rfl (hB (Or.inr hr))
    | true =>
      refine br_f (by decide) ?_
      unfold wX_rankFromSmallerSets_21
      refine br_f (by decide) (xa_size hs ?_)
      rw [← md_stepA hs hx hr]
      exact hp
theorem xa_upd {post : SX → Prop} (hp : ∀ Q' : Nat → Int32, (∀ t, t < 256 → Q' t = nI (md_R V t)) → post (V, C, W, Q')) : wpX_updateRanks post (V, C, W, Q) := by
  refine loop_0 (fun n i q => wX_updateRanks_2 post n (nI i) V C W q) (fun i q => ∀ t, t < i → q t = nI (md_R V t)) 256 Q (fun t ht => absurd ht (Nat.not_lt_zero t)) (fun n q hq => br_t md_le256 (hp q hq)) (fun n i q hi hq k => ?_)
  refine br_f (md_nle256 hi) (xa_rfs hi hq ⟨md_in256 hi, ?_⟩)
  rw [md_cl256 hi]
  refine nm_e (nm_r (nI_1 i) (k _ (fun t ht => ?_)))
  by_cases e : t = i
  · rw [e]
    exact pk_us
  · rw [pk_un e]
    exact hq t (by omega)
end
end
section
section
variable {V C W Q U : Nat → Int32} {post : Int32 → Prop} {s : Nat}
theorem xa_base (hs : s < 256) (hq : ∀ t, t < 256 → Q t = nI (md_R U t)) (hp : post (md_bI (md_ba U s))) : wpX_isBase post (V, C, W, Q) (nI s) := by
  unfold wpX_isBase
  dsimp only
  refine xa_ind (U := U) hs (hq s hs) ?_
  cases hf : md_fr U s with
  | false =>
    have h0 := md_ba_f hf
    rw [md_bI_f h0] at hp
    exact br_t rfl hp
  | true =>
    refine br_f (by decide) ⟨md_in256 hs, ?_⟩
    rw [md_cl256 hs, hq s hs, hq 255 (by decide), (md_fr_R hs).mp hf]
    by_cases h : md_sz s = md_R U 255
    · have h0 := md_ba_t hf h
      rw [md_bI_t h0] at hp
      exact br_t (by rw [h]) hp
    · have h0 := md_ba_n h
      rw [md_bI_f h0] at hp
      exact br_f (fun z => h ((md_eq_n (md_sz8 s) (md_R8 U 255)).mp z)) hp
theorem xa_circ (hs : s < 256) (hq : ∀ t, t < 256 → Q t = nI (md_R U t)) (hp : post (md_bI (md_ci U s))) : wpX_isCircuit post (V, C, W, Q) (nI s) := by
  unfold wpX_isCircuit
  dsimp only
  refine xa_ind (U := U) hs (hq s hs) ?_
  cases hf : md_fr U s with
  | true =>
    have h0 := md_ci_f hf
    rw [md_bI_f h0] at hp
    exact br_f (by decide) hp
  | false =>
    have h0 := md_ci_r hf
    rw [h0] at hp
    refine br_t rfl (xa_rai (U := U) hs (fun t ht => hq t (by omega)) ?_)
    cases hr : md_ra U s with
    | false => rw [hr] at hp; exact br_t rfl hp
    | true => rw [hr] at hp; exact br_f (by decide) hp
theorem xa_col (hs : s < 256) (hp : post (md_bI (md_dc C s))) : wpX_hasDifferentColours post (V, C, W, Q) (nI s) := by
  refine loop_0 (fun n i a => wX_hasDifferentColours_4 post (nI s) V C W Q n a (nI i)) (fun i a => a = md_sn C s i ∧ md_all (md_dcP C s) i = true) 8 0 ⟨rfl, rfl⟩ (fun n a (ha : a = md_sn C s 8 ∧ md_all (md_dcP C s) 8 = true) => br_t md_le8 (by rw [md_bI_t (b := md_dc C s) ha.2] at hp; exact hp)) (fun n i a hi (ha : a = md_sn C s i ∧ md_all (md_dcP C s) i = true) k => ?_)
  obtain ⟨ha, hall⟩ := ha
  refine br_f (md_nle8 hi) (xa_has hs hi ?_)
  by_cases hb : md_bit s i = 1
  · refine br_f (fun z => md_n01.mp z hb) ⟨md_in8 hi, ?_⟩
    rw [md_cl8 hi]
    refine nm_e ?_
    rw [ha]
    by_cases h : (md_sn C s i &&& ((1 : Int32) <<< (C i &&& 31))) = 0
    · refine br_t h (nm_r (e' := md_sn C s (i + 1)) (if_pos hb).symm (nm_r (nI_1 i) (k _ ⟨rfl, ?_⟩)))
      exact md_all_t hall (md_dcP_t (fun z => z.2 h))
    · have h0 : md_dc C s = false := md_all_no hi (md_dcP_f hb h)
      rw [md_bI_f h0] at hp
      exact br_f h hp
  · refine br_t (md_n01.mpr hb) (nm_r (nI_1 i) (k _ ⟨?_, ?_⟩))
    · rw [ha]
      exact (if_neg hb).symm
    · exact md_all_t hall (md_dcP_t (fun z => hb z.1))
theorem xa_sum (hs : s < 256) (hp : post (md_sw W s 8)) : wpX_sumOfWeights post (V, C, W, Q) (nI s) := by
  refine loop_0 (fun n i a => wX_sumOfWeights_4 post (nI s) V C W Q n a (nI i)) (fun i a => a = md_sw W s i) 8 0 rfl (fun n a (ha : a = md_sw W s 8) => br_t md_le8 (by rw [ha]; exact hp)) (fun n i a hi (ha : a = md_sw W s i) k => ?_)
  refine br_f (md_nle8 hi) (xa_has hs hi ?_)
  by_cases hb : md_bit s i = 1
  · refine br_f (fun z => md_n01.mp z hb) ⟨md_in8 hi, nm_r (e' := md_sw W s (i + 1)) ?_ (nm_r (nI_1 i) (k _ rfl))⟩
    rw [ha, md_cl8 hi]
    exact (if_pos hb).symm
  · refine br_t (md_n01.mpr hb) (nm_r (nI_1 i) (k _ ?_))
    rw [ha]
    exact (if_neg hb).symm
theorem xa_gu (hs : s < 256) (hq : ∀ t, t < 256 → Q t = nI (md_R U t)) (hp : post (nI (md_G U s))) : wpX_greatestUnionWith post (V, C, W, Q) (nI s) := by
  refine loop_0 (fun n i a => wX_greatestUnionWith_4 post (nI s) V C W Q n a (nI i)) (fun i a => a = nI (md_mx 0 (md_fr U) (md_uv s) i)) 256 0 rfl (fun n a (ha : a = nI (md_mx 0 (md_fr U) (md_uv s) 256)) => br_t md_le256 (by rw [ha]; exact hp)) (fun n i a hi (ha : a = nI (md_mx 0 (md_fr U) (md_uv s) i)) k => ?_)
  have hm : md_mx 0 (md_fr U) (md_uv s) i ≤ 8 := md_mx8 (v := md_uv s) (fun b => md_sz8 (s ||| b)) i
  have ho : s ||| i < 256 := md_or256 hs hi
  refine br_f (md_nle256 hi) ?_
  rw [md_or]
  refine xa_size ho ?_
  rw [ha]
  by_cases h : md_uv s i ≤ md_mx 0 (md_fr U) (md_uv s) i
  · refine br_t ((md_le_n (md_sz8 _) hm).mpr h) (nm_r (nI_1 i) (k _ ?_))
    exact congrArg nI (md_mx_n (v := fun b => md_sz (s ||| b)) h).symm
  · refine br_f (fun z => h ((md_le_n (md_sz8 _) hm).mp z)) (xa_ind (U := U) hi (hq i hi) ?_)
    cases hf : md_fr U i with
    | false =>
      refine br_t rfl (nm_r (nI_1 i) (k _ ?_))
      exact congrArg nI (md_mx_f hf).symm
    | true =>
      refine br_f (by decide) (nm_r (nI_1 i) (k _ ?_))
      exact congrArg nI (md_mx_t (v := fun b => md_sz (s ||| b)) hf (Nat.lt_of_not_le h)).symm
end
section
variable {V C W Q : Nat → Int32} {post : Int32 → Prop}
theorem xa_rank {p : Int32} {j : Nat} (hq : ∀ t, t < 256 → Q t = nI (md_R V t)) (hj : j < 256) (e : p &&& 255 = nI j) (hp : post (nI (md_R V j))) : wpX_rank post (V, C, W, Q) p := by
  unfold wpX_rank
  dsimp only
  rw [e, md_cl256 hj, hq j hj]
  exact ⟨md_in256 hj, hp⟩
theorem xa_clo {p : Int32} {j : Nat} (hq : ∀ t, t < 256 → Q t = nI (md_R V t)) (hj : j < 256) (e : p &&& 255 = nI j) (hp : post (md_cl V j 8)) : wpX_closure post (V, C, W, Q) p := by
  unfold wpX_closure
  dsimp only
  refine nm_r e ?_
  refine loop_0 (fun n i a => wX_closure_11 post (nI j) V C W Q n a (nI i)) (fun i a => a = md_cl V j i) 8 0 rfl (fun n a (ha : a = md_cl V j 8) => br_t md_le8 (by rw [ha]; exact hp)) (fun n i a hi (ha : a = md_cl V j i) k => ?_)
  have ho := md_or256 hj (md_p256 i hi)
  refine br_f (md_nle8 hi) (nm_r (md_shl i hi) ?_)
  rw [md_or]
  refine ⟨md_in256 ho, md_in256 hj, ?_⟩
  rw [md_cl256 ho, md_cl256 hj, hq _ ho, hq _ hj]
  by_cases h : md_R V (j ||| 2 ^ i) = md_R V j
  · refine br_t (by rw [h]) (nm_r (e' := md_cl V j (i + 1)) ?_ (nm_r (nI_1 i) (k _ rfl)))
    rw [ha]
    exact (if_pos h).symm
  · refine br_f (fun z => h ((md_eq_n (md_R8 V _) (md_R8 V _)).mp z)) (nm_r (nI_1 i) (k _ ?_))
    rw [ha]
    exact (if_neg h).symm
theorem xa_bases (hq : ∀ t, t < 256 → Q t = nI (md_R V t)) (hp : post (md_ct (md_ba V) 256)) : wpX_bases post (V, C, W, Q) := by
  refine loop_0 (fun n i a => wX_bases_4 post V C W Q n a (nI i)) (fun i a => a = md_ct (md_ba V) i) 256 0 rfl (fun n a (ha : a = md_ct (md_ba V) 256) => br_t md_le256 (by rw [ha]; exact hp)) (fun n i a hi (ha : a = md_ct (md_ba V) i) k => ?_)
  refine br_f (md_nle256 hi) (xa_base (U := V) hi hq ?_)
  cases hb : md_ba V i with
  | false => exact br_t rfl (nm_r (nI_1 i) (k _ (by rw [ha]; exact (md_ct_f hb).symm)))
  | true => exact br_f (by decide) (nm_r (e' := md_ct (md_ba V) (i + 1)) (by rw [ha]; exact (md_ct_t hb).symm) (nm_r (nI_1 i) (k _ rfl)))
theorem xa_circs (hq : ∀ t, t < 256 → Q t = nI (md_R V t)) (hp : post (md_ct (md_ci V) 256)) : wpX_circuits post (V, C, W, Q) := by
  refine loop_0 (fun n i a => wX_circuits_4 post V C W Q n a (nI i)) (fun i a => a = md_ct (md_ci V) i) 256 0 rfl (fun n a (ha : a = md_ct (md_ci V) 256) => br_t md_le256 (by rw [ha]; exact hp)) (fun n i a hi (ha : a = md_ct (md_ci V) i) k => ?_)
  refine br_f (md_nle256 hi) (xa_circ (U := V) hi hq ?_)
  cases hb : md_ci V i with
  | false => exact br_t rfl (nm_r (nI_1 i) (k _ (by rw [ha]; exact (md_ct_f hb).symm)))
  | true => exact br_f (by decide) (nm_r (e' := md_ct (md_ci V) (i + 1)) (by rw [ha]; exact (md_ct_t hb).symm) (nm_r (nI_1 i) (k _ rfl)))
theorem xa_poly {x y : Int32} (hq : ∀ t, t < 256 → Q t = nI (md_R V t)) (hp : post (md_po V x y 256)) : wpX_polynomial post (V, C, W, Q) x y := by
  refine loop_0 (fun n i a => wX_polynomial_5 post x y V C W Q n a (nI i)) (fun i a => a = md_po V x y i) 256 0 rfl (fun n a (ha : a = md_po V x y 256) => br_t md_le256 (by rw [ha]; exact hp)) (fun n i a hi (ha : a = md_po V x y i) k => ?_)
  have h1 := md_R255 V hi
  have h2 := md_R8 V 255
  have h3 := md_sz8 i
  refine br_f (md_nle256 hi) ⟨md_in256 hi, ?_⟩
  rw [md_cl256 hi, hq 255 (by decide), hq i hi, pk_sub h1]
  refine nm_e (xa_size hi ⟨md_in256 hi, ?_⟩)
  rw [pk_sub (md_R_sz V i)]
  refine nm_e (xa_pow (by omega) (xa_pow (by omega) (nm_r (e' := md_po V x y (i + 1)) ?_ (nm_r (nI_1 i) (k _ rfl)))))
  rw [ha, md_po_s]
theorem xa_rain (hq : ∀ t, t < 256 → Q t = nI (md_R V t)) (hp : post (nI (md_rb V C))) : wpX_rainbow post (V, C, W, Q) := by
  refine loop_0 (fun n i a => wX_rainbow_4 post V C W Q n a (nI i)) (fun i a => a = nI (md_mx 0 (md_rc V C) md_sz i)) 256 0 rfl (fun n a (ha : a = nI (md_mx 0 (md_rc V C) md_sz 256)) => br_t md_le256 (by rw [ha]; exact hp)) (fun n i a hi (ha : a = nI (md_mx 0 (md_rc V C) md_sz i)) k => ?_)
  have hm : md_mx 0 (md_rc V C) md_sz i ≤ 8 := md_mx8 md_sz8 i
  refine br_f (md_nle256 hi) (xa_size hi ?_)
  rw [ha]
  by_cases h : md_sz i ≤ md_mx 0 (md_rc V C) md_sz i
  · exact br_t ((md_le_n (md_sz8 i) hm).mpr h) (nm_r (nI_1 i) (k _ (congrArg nI (md_mx_n h).symm)))
  · refine br_f (fun z => h ((md_le_n (md_sz8 i) hm).mp z)) (xa_ind (U := V) hi (hq i hi) ?_)
    cases hf : md_fr V i with
    | false => exact br_t rfl (nm_r (nI_1 i) (k _ (congrArg nI (md_mx_f (md_rc_f1 hf)).symm)))
    | true =>
      refine br_f (by decide) (xa_col hi ?_)
      cases hd : md_dc C i with
      | false => exact br_t rfl (nm_r (nI_1 i) (k _ (congrArg nI (md_mx_f (md_rc_f2 hd)).symm)))
      | true => exact br_f (by decide) ((nm_r (nI_1 i) (k _ (congrArg nI (md_mx_t (md_rc_t hf hd) (Nat.lt_of_not_le h)).symm))))
theorem xa_heavy (hq : ∀ t, t < 256 → Q t = nI (md_R V t)) (hp : post (md_he V W)) : wpX_heaviest post (V, C, W, Q) := by
  refine loop_0 (fun n i a => wX_heaviest_6 post V C W Q n a (nI i)) (fun i a => a = md_hv (-801) (md_ba V) (fun s => md_sw W s 8) i) 256 (-801) rfl (fun n a (ha : a = md_hv (-801) (md_ba V) (fun s => md_sw W s 8) 256) => br_t md_le256 (by rw [ha]; exact hp)) (fun n i a hi (ha : a = md_hv (-801) (md_ba V) (fun s => md_sw W s 8) i) k => ?_)
  refine br_f (md_nle256 hi) (xa_base (U := V) hi hq ?_)
  cases hb : md_ba V i with
  | false => exact br_t rfl (nm_r (nI_1 i) (k _ (by rw [ha]; exact (md_hv_f hb).symm)))
  | true =>
    refine br_f (by decide) (xa_sum hi ?_)
    rw [ha]
    by_cases h : md_sw W i 8 ≤ md_hv (-801) (md_ba V) (fun s => md_sw W s 8) i
    · exact br_t h (nm_r (nI_1 i) (k _ (md_hv_n (w := fun s => md_sw W s 8) (Int32.not_lt.mpr h)).symm))
    · exact br_f h ((nm_r (nI_1 i) (k _ (md_hv_t (w := fun s => md_sw W s 8) hb (Int32.not_le.mp h)).symm)))
theorem xa_union (hq : ∀ t, t < 256 → Q t = nI (md_R V t)) (hp : post (nI (md_un V 256))) : wpX_union post (V, C, W, Q) := by
  rw [md_un_eq] at hp
  refine loop_0 (fun n i a => wX_union_4 post V C W Q n a (nI i)) (fun i a => a = nI (md_mx 0 (md_fr V) (md_G V) i)) 256 0 rfl (fun n a (ha : a = nI (md_mx 0 (md_fr V) (md_G V) 256)) => br_t md_le256 (by rw [ha]; exact hp)) (fun n i a hi (ha : a = nI (md_mx 0 (md_fr V) (md_G V) i)) k => ?_)
  have hm : md_mx 0 (md_fr V) (md_G V) i ≤ 8 := md_mx8 (md_G8 V) i
  refine br_f (md_nle256 hi) (xa_ind (U := V) hi (hq i hi) ?_)
  cases hf : md_fr V i with
  | false => exact br_t rfl (nm_r (nI_1 i) (k _ (by rw [ha]; exact congrArg nI (md_mx_f hf).symm)))
  | true =>
    refine br_f (by decide) (xa_gu (U := V) hi hq ?_)
    rw [ha]
    by_cases h : md_G V i ≤ md_mx 0 (md_fr V) (md_G V) i
    · exact br_t ((md_le_n (md_G8 V i) hm).mpr h) (nm_r (nI_1 i) (k _ (congrArg nI (md_mx_n h).symm)))
    · exact br_f (fun z => h ((md_le_n (md_G8 V i) hm).mp z)) ((nm_r (nI_1 i) (k _ (congrArg nI (md_mx_t hf (Nat.lt_of_not_le h)).symm))))
end
end
section
/-! ===== the reference: private methods ===== -/
theorem ya_ones {post : Int32 → Prop} {s : Nat} (hs : s < 256) (hp : post (nI (md_sz s))) : wpY_ones post (nI s) := by
  refine loop_0 (fun n i a => wY_ones_4 post (nI s) n a (nI i)) (fun i a => a = nI (md_szu s i)) 8 0 rfl (fun n a (ha : a = nI (md_szu s 8)) => br_t md_le8 (by rw [ha]; exact hp)) (fun n i a hi (ha : a = nI (md_szu s i)) k => ?_)
  refine br_f (md_nle8 hi) (nm_r (e' := nI (md_szu s (i + 1))) ?_ (nm_r (nI_1 i) (k _ rfl)))
  rw [ha, md_shr hs hi, nI_add, md_szu_s]
theorem ya_pow {post : Int32 → Prop} {b : Int32} {m : Nat} (hm : m ≤ 8) (hp : post (md_pw b m)) : wpY_power post b (nI m) := by
  refine loop_0 (fun n i a => wY_power_4 post b (nI m) n a (nI i)) (fun i a => a = md_pw b i) m 1 rfl (fun n a (ha : a = md_pw b m) => br_t (nI_le (Nat.le_refl m) (by omega)) (by rw [ha]; exact hp)) (fun n i a hi (ha : a = md_pw b i) k => ?_)
  refine br_f (nI_ge hi (by omega)) (nm_r (e' := md_pw b (i + 1)) ?_ (nm_r (nI_1 i) (k _ rfl)))
  rw [ha, md_pw_s]
section
variable {V C W F R : Nat → Int32} {post : Int32 → Prop} {s : Nat}
theorem ya_sum (hs : s < 256) (hp : post (md_X V s)) : wpY_sumOf post (V, C, W, F, R) (nI s) := by
  refine loop_0 (fun n i a => wY_sumOf_4 post (nI s) V C W F R n a (nI i)) (fun i a => a = md_xo V s i) 8 0 rfl (fun n a (ha : a = md_xo V s 8) => br_t md_le8 (by rw [ha]; exact hp)) (fun n i a hi (ha : a = md_xo V s i) k => ?_)
  refine br_f (md_nle8 hi) ?_
  rw [md_shr hs hi]
  by_cases hb : md_bit s i = 1
  · refine br_t (md_n11.mpr hb) ⟨md_in8 hi, nm_r (e' := md_xo V s (i + 1)) ?_ (nm_r (nI_1 i) (k _ rfl))⟩
    rw [ha, md_cl8 hi]
    exact (if_pos hb).symm
  · refine br_f (fun z => hb (md_n11.mp z)) (nm_r (nI_1 i) (k _ ?_))
    rw [ha]
    exact (if_neg hb).symm
theorem ya_wt (hs : s < 256) (hp : post (md_sw W s 8)) : wpY_weightOf post (V, C, W, F, R) (nI s) := by
  refine loop_0 (fun n i a => wY_weightOf_4 post (nI s) V C W F R n a (nI i)) (fun i a => a = md_sw W s i) 8 0 rfl (fun n a (ha : a = md_sw W s 8) => br_t md_le8 (by rw [ha]; exact hp)) (fun n i a hi (ha : a = md_sw W s i) k => ?_)
  refine br_f (md_nle8 hi) ?_
  rw [md_shr hs hi]
  by_cases hb : md_bit s i = 1
  · refine br_t (md_n11.mpr hb) ⟨md_in8 hi, nm_r (e' := md_sw W s (i + 1)) ?_ (nm_r (nI_1 i) (k _ rfl))⟩
    rw [ha, md_cl8 hi]
    exact (if_pos hb).symm
  · refine br_f (fun z => hb (md_n11.mp z)) (nm_r (nI_1 i) (k _ ?_))
    rw [ha]
    exact (if_neg hb).symm
theorem ya_col (hC : ∀ e, e < 8 → ∃ c, c < 8 ∧ C e = nI c) (hs : s < 256) (hp : post (md_bI (md_dc C s))) : wpY_coloured post (V, C, W, F, R) (nI s) := by
  refine loop_0 (fun n i a => wY_coloured_4 post (nI s) V C W F R n a (nI i)) (fun i a => a = md_sn C s i ∧ md_all (md_dcP C s) i = true) 8 0 ⟨rfl, rfl⟩ (fun n a (ha : a = md_sn C s 8 ∧ md_all (md_dcP C s) 8 = true) => br_t md_le8 (by rw [md_bI_t (b := md_dc C s) ha.2] at hp; exact hp)) (fun n i a hi (ha : a = md_sn C s i ∧ md_all (md_dcP C s) i = true) k => ?_)
  obtain ⟨ha, hall⟩ := ha
  obtain ⟨c, hc, ec⟩ := hC i hi
  have hseen := md_seen (md_sn C s i) hc
  rw [← ec] at hseen
  refine br_f (md_nle8 hi) ?_
  rw [md_shr hs hi]
  by_cases hb : md_bit s i = 1
  · refine br_t (md_n11.mpr hb) ⟨md_in8 hi, ?_⟩
    rw [md_cl8 hi, ha]
    by_cases h : (md_sn C s i &&& ((1 : Int32) <<< (C i &&& 31))) = 0
    · refine br_f (hseen.mp h) ⟨md_in8 hi, nm_r (e' := md_sn C s (i + 1)) (if_pos hb).symm (nm_r (nI_1 i) (k _ ⟨rfl, ?_⟩))⟩
      exact md_all_t hall (md_dcP_t (fun z => z.2 h))
    · have h0 : md_dc C s = false := md_all_no hi (md_dcP_f hb h)
      rw [md_bI_f h0] at hp
      exact br_t (Classical.byContradiction (fun z => h (hseen.mpr z))) hp
  · refine br_f (fun z => hb (md_n11.mp z)) (nm_r (nI_1 i) (k _ ⟨?_, ?_⟩))
    · rw [ha]
      exact (if_neg hb).symm
    · exact md_all_t hall (md_dcP_t (fun z => hb z.1))
theorem ya_base {U : Nat → Int32} (hs : s < 256) (hF : ∀ t, t < 256 → F t = md_bI (md_fr U t)) (hR : ∀ t, t < 256 → R t = nI (md_R U t)) (hp : post (md_bI (md_ba U s))) : wpY_base post (V, C, W, F, R) (nI s) := by
  unfold wpY_base
  dsimp only
  refine ⟨md_in256 hs, ?_⟩
  rw [md_cl256 hs, hF s hs]
  cases hf : md_fr U s with
  | false =>
    have h0 := md_ba_f hf
    rw [md_bI_f h0] at hp
    exact br_t rfl hp
  | true =>
    refine br_f (by decide) (ya_ones hs ?_)
    rw [hR 255 (by decide)]
    by_cases h : md_sz s = md_R U 255
    · have h0 := md_ba_t hf h
      rw [md_bI_t h0] at hp
      exact br_t (by rw [h]) hp
    · have h0 := md_ba_n h
      rw [md_bI_f h0] at hp
      exact br_f (fun z => h ((md_eq_n (md_sz8 s) (md_R8 U 255)).mp z)) hp
theorem ya_cir {U : Nat → Int32} (hs : s < 256) (hF : ∀ t, t < 256 → F t = md_bI (md_fr U t)) (hp : post (md_bI (md_ci U s))) : wpY_circuit post (V, C, W, F, R) (nI s) := by
  unfold wpY_circuit
  dsimp only
  refine ⟨md_in256 hs, ?_⟩
  rw [md_cl256 hs, hF s hs]
  cases hf : md_fr U s with
  | true =>
    have h0 := md_ci_f hf
    rw [md_bI_f h0] at hp
    exact br_f (by decide) hp
  | false =>
    have h0 := md_ci_r hf
    rw [h0] at hp
    refine br_t rfl ?_
    refine loop_0 (fun n i (_ : Unit) => wY_circuit_13 post (nI s) V C W F R n (nI i)) (fun i _ => md_all (md_raP U s) i = true) 8 () rfl (fun n _ ha => br_t md_le8 (by rw [md_bI_t (b := md_ra U s) ha] at hp; exact hp)) (fun n i _ hi ha k => ?_)
    refine br_f (md_nle8 hi) ?_
    rw [md_shr hs hi]
    by_cases hb : md_bit s i = 1
    · have hr := md_rest256 hs hi
      refine br_t (md_n11.mpr hb) ?_
      rw [md_cmp s hs i hi hb]
      refine ⟨md_in256 hr, ?_⟩
      rw [md_cl256 hr, hF _ hr]
      cases hg : md_fr U (s ^^^ 2 ^ i) with
      | false =>
        have h1 : md_ra U s = false := md_all_no hi (md_raP_f hb hg)
        rw [md_bI_f h1] at hp
        exact br_t rfl hp
      | true =>
        refine br_f (by decide) (nm_r (nI_1 i) (k () ?_))
        exact md_all_t ha (md_raP_t hg)
    · refine br_f (fun z => hb (md_n11.mp z)) (nm_r (nI_1 i) (k () ?_))
      exact md_all_t ha (md_raP_n hb)
end
end
section
section
variable {V C W F R : Nat → Int32}
theorem ya_wE {post : SY → Prop} {J : Int32 → (Nat → Int32) → (Nat → Int32) → (Nat → Int32) → (Nat → Int32) → (Nat → Int32) → Prop} {i : Nat} (hi : i < 256) (hF : ∀ t, t < 256 → F t = md_bI (md_fr V t)) (h0 : R i = 0) (hR : ∀ t, t < i → R t = nI (md_R V t))
    (hJ : ∀ R' : Nat → Int32, (∀ t, t < i + 1 → R' t = nI (md_R V t)) → J (nI (i + 1)) V C W F R') : ∃ n, wY_work_92 post J (nI i) n 0 V C W F R := by
  refine loop_0 (fun n p r => wY_work_92 post J (nI i) n (nI p) V C W F r) (fun p r => (∀ t, t < i → r t = nI (md_R V t)) ∧ r i = nI (md_mx 0 (md_Rc V i) md_sz p)) 256 R ⟨hR, h0⟩ ?_ ?_
  · intro n r hr
    refine br_t md_le256 (nm_r (nI_1 i) (hJ r (fun t ht => ?_)))
    by_cases q : t = i
    · rw [q]
      exact hr.2
    · exact hr.1 t (by omega)
  · intro n p r hp hr k
    have hm : md_mx 0 (md_Rc V i) md_sz p ≤ 8 := md_mx8 md_sz8 p
    have hcont : md_mx 0 (md_Rc V i) md_sz (p + 1) = md_mx 0 (md_Rc V i) md_sz p → wY_work_92 post J (nI i) n (nI (p + 1)) V C W F r := fun e => k r ⟨hr.1, by rw [e]; exact hr.2⟩
    refine br_f (md_nle256 hp) (ya_ones hp ⟨md_in256 hp, ?_⟩)
    rw [md_cl256 hp, hF p hp]
    cases hf : md_fr V p with
    | false =>
      refine br_t rfl (nm_r (nI_1 p) (hcont (md_mx_f ?_)))
      exact Bool.eq_false_iff.mpr (fun z => by have := (md_Rc_iff.mp z).1; rw [hf] at this; exact absurd this (by decide))
    | true =>
      refine br_f (by decide) ?_
      rw [nx_and]
      by_cases hsub : i &&& p = p
      · refine br_t (by rw [hsub]) ⟨md_in256 hi, ?_⟩
        rw [md_cl256 hi, hr.2]
        by_cases h : md_sz p ≤ md_mx 0 (md_Rc V i) md_sz p
        · exact br_t ((md_le_n (md_sz8 p) hm).mpr h) (nm_r (nI_1 p) (hcont (md_mx_n h)))
        · refine br_f (fun z => h ((md_le_n (md_sz8 p) hm).mp z)) ⟨md_in256 hi, nm_e (nm_r (nI_1 p) (k _ ⟨fun t ht => ?_, ?_⟩))⟩
          · have hne : t ≠ i := by omega
            rw [pk_un hne]
            exact hr.1 t ht
          · rw [pk_us, md_mx_t (md_Rc_iff.mpr ⟨hf, hsub⟩) (Nat.lt_of_not_le h)]
      · refine br_f (fun z => hsub ((md_eq256 (md_and256 hi) hp).mp z)) (nm_r (nI_1 p) (hcont (md_mx_f ?_)))
        exact Bool.eq_false_iff.mpr (fun z => hsub (md_Rc_iff.mp z).2)
theorem ya_wD {post : SY → Prop} (hF : ∀ t, t < 256 → F t = md_bI (md_fr V t)) (hp : ∀ R' : Nat → Int32, (∀ t, t < 256 → R' t = nI (md_R V t)) → post (V, C, W, F, R')) : ∃ n, wY_work_76 post n 0 V C W F R := by
  refine loop_0 (fun n i r => wY_work_76 post n (nI i) V C W F r) (fun i r => ∀ t, t < i → r t = nI (md_R V t)) 256 R (fun t ht => absurd ht (Nat.not_lt_zero t)) (fun n r hr => br_t md_le256 (hp r hr)) (fun n i r hi hr k => ?_)
  refine br_f (md_nle256 hi) ⟨md_in256 hi, ?_⟩
  rw [md_cl256 hi]
  refine nm_e (ya_wE hi hF pk_us (fun t ht => ?_) (fun R' hR' => k R' hR'))
  have hne : t ≠ i := by omega
  rw [pk_un hne]
  exact hr t ht
theorem ya_wC {post : SY → Prop} {J : Int32 → (Nat → Int32) → (Nat → Int32) → (Nat → Int32) → (Nat → Int32) → (Nat → Int32) → Prop} {i : Nat} (hi : i < 256) (h1 : 1 ≤ i) (hx : md_X V i = 0) (hF : ∀ t, t < 256 → F t = md_bI (md_fb V t i))
    (hJ : ∀ F' : Nat → Int32, (∀ t, t < 256 → F' t = md_bI (md_fb V t (i + 1))) → J (nI (i + 1)) V C W F' R) : ∃ n, wY_work_41 post J (nI i) n 0 V C W F R := by
  refine loop_0 (fun n p f => wY_work_41 post J (nI i) n (nI p) V C W f R) (fun p f => (∀ t, t < p → f t = md_bI (md_fb V t (i + 1))) ∧ ∀ t, p ≤ t → t < 256 → f t = md_bI (md_fb V t i)) 256 F ⟨fun t ht => absurd ht (Nat.not_lt_zero t), fun t _ ht => hF t ht⟩ ?_ ?_
  · intro n f hf
    exact br_t md_le256 (nm_r (nI_1 i) (hJ f hf.1))
  · intro n p f hp hf k
    refine br_f (md_nle256 hp) ?_
    rw [nx_and]
    by_cases hsub : p &&& i = i
    · refine br_t (by rw [hsub]) ⟨md_in256 hp, ?_⟩
      rw [md_cl256 hp, md_vb0]
      refine nm_e (nm_r (nI_1 p) (k _ ⟨fun t ht => ?_, fun t h2 h3 => ?_⟩))
      · by_cases q : t = p
        · rw [q, pk_us, md_fb_z h1 hx hsub] <;> rfl
        · rw [pk_un q]
          exact hf.1 t (by omega)
      · have hne : t ≠ p := by omega
        rw [pk_un hne]
        exact hf.2 t (by omega) h3
    · refine br_f (fun z => hsub ((md_eq256 (md_and256 hp) hi).mp z)) (nm_r (nI_1 p) (k _ ⟨fun t ht => ?_, fun t h2 h3 => hf.2 t (by omega) h3⟩))
      by_cases q : t = p
      · rw [q, md_fb_k (fun z => hsub z.2.2)]
        exact hf.2 p (Nat.le_refl p) hp
      · exact hf.1 t (by omega)
theorem ya_wB {post : SY → Prop} (hF : ∀ t, t < 256 → F t = 1) (hp : ∀ F' R' : Nat → Int32, (∀ t, t < 256 → F' t = md_bI (md_fr V t)) → (∀ t, t < 256 → R' t = nI (md_R V t)) → post (V, C, W, F', R')) : ∃ n, wY_work_24 post n 1 V C W F R := by
  refine pk_loop (fun n i f => wY_work_24 post n (nI i) V C W f R) (fun i f => 1 ≤ i ∧ ∀ t, t < 256 → f t = md_bI (md_fb V t i)) 256 1 F (by omega) ⟨Nat.le_refl 1, fun t ht => by rw [md_fb_1]; exact hF t ht⟩ (fun n f hf => br_t md_le256 (ya_wD hf.2 (fun R' hR' => hp f R' hf.2 hR'))) (fun n i f hi hf k => ?_)
  refine br_f (md_nle256 hi) (ya_sum hi ?_)
  by_cases hx : md_X V i = 0
  · exact br_t hx (ya_wC hi hf.1 hx hf.2 (fun F' hF' => k F' ⟨by omega, hF'⟩))
  · refine br_f hx (nm_r (nI_1 i) (k f ⟨by omega, fun t ht => ?_⟩))
    rw [md_fb_k (fun z => hx z.2.1)]
    exact hf.2 t ht
theorem ya_work {post : SY → Prop} (hp : ∀ F' R' : Nat → Int32, (∀ t, t < 256 → F' t = md_bI (md_fr V t)) → (∀ t, t < 256 → R' t = nI (md_R V t)) → post (V, C, W, F', R')) : wpY_work post (V, C, W, F, R) := by
  refine loop_0 (fun n i f => wY_work_2 post n (nI i) V C W f R) (fun i f => ∀ t, t < i → f t = 1) 256 F (fun t ht => absurd ht (Nat.not_lt_zero t)) (fun n f hf => br_t md_le256 (ya_wB hf hp)) (fun n i f hi hf k => ?_)
  refine br_f (md_nle256 hi) ⟨md_in256 hi, ?_⟩
  rw [md_cl256 hi, md_vb1]
  refine nm_e (nm_r (nI_1 i) (k _ (fun t ht => ?_)))
  by_cases q : t = i
  · rw [q]
    exact pk_us
  · rw [pk_un q]
    exact hf t (by omega)
end
end
section
section
variable {V C W F R : Nat → Int32} {post : Int32 → SY → Prop}
theorem ya_rank {p : Int32} {j : Nat} (hj : j < 256) (e : p &&& 255 = nI j) (hp : ∀ F' R' : Nat → Int32, post (nI (md_R V j)) (V, C, W, F', R')) : wpY_rank post (V, C, W, F, R) p := by
  unfold wpY_rank
  dsimp only
  refine ya_work (fun F' R' hF hR => ?_)
  dsimp only
  rw [e, md_cl256 hj, hR j hj]
  exact ⟨md_in256 hj, hp F' R'⟩
theorem ya_clo {p : Int32} {j : Nat} (hj : j < 256) (e : p &&& 255 = nI j) (hp : ∀ F' R' : Nat → Int32, post (md_cl V j 8) (V, C, W, F', R')) : wpY_closure post (V, C, W, F, R) p := by
  unfold wpY_closure
  dsimp only
  refine ya_work (fun F' R' hF hR => ?_)
  dsimp only
  refine nm_r e ?_
  refine loop_0 (fun n i a => wY_closure_15 post (nI j) V C W F' R' n a (nI i)) (fun i a => a = md_cl V j i) 8 0 rfl (fun n a (ha : a = md_cl V j 8) => br_t md_le8 (by rw [ha]; exact hp F' R')) (fun n i a hi (ha : a = md_cl V j i) k => ?_)
  have ho := md_or256 hj (md_p256 i hi)
  refine br_f (md_nle8 hi) ?_
  rw [md_shl i hi, md_or]
  refine ⟨md_in256 ho, md_in256 hj, ?_⟩
  rw [md_cl256 ho, md_cl256 hj, hR _ ho, hR _ hj]
  by_cases h : md_R V (j ||| 2 ^ i) = md_R V j
  · refine br_t (by rw [h]) (nm_r (e' := md_cl V j (i + 1)) ?_ (nm_r (nI_1 i) (k _ rfl)))
    rw [ha]
    exact (if_pos h).symm
  · refine br_f (fun z => h ((md_eq_n (md_R8 V _) (md_R8 V _)).mp z)) (nm_r (nI_1 i) (k _ ?_))
    rw [ha]
    exact (if_neg h).symm
theorem ya_bases (hp : ∀ F' R' : Nat → Int32, post (md_ct (md_ba V) 256) (V, C, W, F', R')) : wpY_bases post (V, C, W, F, R) := by
  unfold wpY_bases
  dsimp only
  refine ya_work (fun F' R' hF hR => ?_)
  dsimp only
  refine loop_0 (fun n i a => wY_bases_8 post V C W F' R' n a (nI i)) (fun i a => a = md_ct (md_ba V) i) 256 0 rfl (fun n a (ha : a = md_ct (md_ba V) 256) => br_t md_le256 (by rw [ha]; exact hp F' R')) (fun n i a hi (ha : a = md_ct (md_ba V) i) k => ?_)
  refine br_f (md_nle256 hi) (ya_base (U := V) hi hF hR ?_)
  cases hb : md_ba V i with
  | false => exact br_t rfl (nm_r (nI_1 i) (k _ (by rw [ha]; exact (md_ct_f hb).symm)))
  | true => exact br_f (by decide) (nm_r (e' := md_ct (md_ba V) (i + 1)) (by rw [ha]; exact (md_ct_t hb).symm) (nm_r (nI_1 i) (k _ rfl)))
theorem ya_circs (hp : ∀ F' R' : Nat → Int32, post (md_ct (md_ci V) 256) (V, C, W, F', R')) : wpY_circuits post (V, C, W, F, R) := by
  unfold wpY_circuits
  dsimp only
  refine ya_work (fun F' R' hF hR => ?_)
  dsimp only
  refine loop_0 (fun n i a => wY_circuits_8 post V C W F' R' n a (nI i)) (fun i a => a = md_ct (md_ci V) i) 256 0 rfl (fun n a (ha : a = md_ct (md_ci V) 256) => br_t md_le256 (by rw [ha]; exact hp F' R')) (fun n i a hi (ha : a = md_ct (md_ci V) i) k => ?_)
  refine br_f (md_nle256 hi) (ya_cir (U := V) hi hF ?_)
  cases hb : md_ci V i with
  | false => exact br_t rfl (nm_r (nI_1 i) (k _ (by rw [ha]; exact (md_ct_f hb).symm)))
  | true => exact br_f (by decide) (nm_r (e' := md_ct (md_ci V) (i + 1)) (by rw [ha]; exact (md_ct_t hb).symm) (nm_r (nI_1 i) (k _ rfl)))
theorem ya_poly {x y : Int32} (hp : ∀ F' R' : Nat → Int32, post (md_po V x y 256) (V, C, W, F', R')) : wpY_polynomial post (V, C, W, F, R) x y := by
  unfold wpY_polynomial
  dsimp only
  refine ya_work (fun F' R' hF hR => ?_)
  dsimp only
  refine loop_0 (fun n i a => wY_polynomial_9 post x y V C W F' R' n a (nI i)) (fun i a => a = md_po V x y i) 256 0 rfl (fun n a (ha : a = md_po V x y 256) => br_t md_le256 (by rw [ha]; exact hp F' R')) (fun n i a hi (ha : a = md_po V x y i) k => ?_)
  have h1 := md_R255 V hi
  have h2 := md_R8 V 255
  have h3 := md_sz8 i
  refine br_f (md_nle256 hi) (ya_ones hi ⟨md_in256 hi, ?_⟩)
  rw [md_cl256 hi, hR 255 (by decide), hR i hi, pk_sub h1, pk_sub (md_R_sz V i)]
  refine ya_pow (by omega) ⟨md_in256 hi, ya_pow (by omega) (nm_r (e' := md_po V x y (i + 1)) ?_ (nm_r (nI_1 i) (k _ rfl)))⟩
  rw [ha, md_po_s]
theorem ya_rain (hC : ∀ e, e < 8 → ∃ c, c < 8 ∧ C e = nI c) (hp : ∀ F' R' : Nat → Int32, post (nI (md_rb V C)) (V, C, W, F', R')) : wpY_rainbow post (V, C, W, F, R) := by
  unfold wpY_rainbow
  dsimp only
  refine ya_work (fun F' R' hF hR => ?_)
  dsimp only
  refine loop_0 (fun n i a => wY_rainbow_8 post V C W F' R' n a (nI i)) (fun i a => a = nI (md_mx 0 (md_rc V C) md_sz i)) 256 0 rfl (fun n a (ha : a = nI (md_mx 0 (md_rc V C) md_sz 256)) => br_t md_le256 (by rw [ha]; exact hp F' R')) (fun n i a hi (ha : a = nI (md_mx 0 (md_rc V C) md_sz i)) k => ?_)
  have hm : md_mx 0 (md_rc V C) md_sz i ≤ 8 := md_mx8 md_sz8 i
  refine br_f (md_nle256 hi) (ya_ones hi ⟨md_in256 hi, ?_⟩)
  rw [md_cl256 hi, hF i hi]
  cases hf : md_fr V i with
  | false => exact br_t rfl (nm_r (nI_1 i) (k _ (by rw [ha]; exact congrArg nI (md_mx_f (md_rc_f1 hf)).symm)))
  | true =>
    refine br_f (by decide) (ya_col hC hi ?_)
    cases hd : md_dc C i with
    | false => exact br_t rfl (nm_r (nI_1 i) (k _ (by rw [ha]; exact congrArg nI (md_mx_f (md_rc_f2 hd)).symm)))
    | true =>
      refine br_f (by decide) ?_
      rw [ha]
      by_cases h : md_sz i ≤ md_mx 0 (md_rc V C) md_sz i
      · exact br_t ((md_le_n (md_sz8 i) hm).mpr h) (nm_r (nI_1 i) (k _ (congrArg nI (md_mx_n h).symm)))
      · exact br_f (fun z => h ((md_le_n (md_sz8 i) hm).mp z)) ((nm_r (nI_1 i) (k _ (congrArg nI (md_mx_t (md_rc_t hf hd) (Nat.lt_of_not_le h)).symm))))
theorem ya_heavy (hp : ∀ F' R' : Nat → Int32, post (md_hv (-1000) (md_ba V) (fun s => md_sw W s 8) 256) (V, C, W, F', R')) : wpY_heaviest post (V, C, W, F, R) := by
  unfold wpY_heaviest
  dsimp only
  refine ya_work (fun F' R' hF hR => ?_)
  dsimp only
  refine loop_0 (fun n i a => wY_heaviest_10 post V C W F' R' n a (nI i)) (fun i a => a = md_hv (-1000) (md_ba V) (fun s => md_sw W s 8) i) 256 (-1000) rfl (fun n a (ha : a = md_hv (-1000) (md_ba V) (fun s => md_sw W s 8) 256) => br_t md_le256 (by rw [ha]; exact hp F' R')) (fun n i a hi (ha : a = md_hv (-1000) (md_ba V) (fun s => md_sw W s 8) i) k => ?_)
  refine br_f (md_nle256 hi) (ya_wt hi (ya_base (U := V) hi hF hR ?_))
  cases hb : md_ba V i with
  | false => exact br_t rfl (nm_r (nI_1 i) (k _ (by rw [ha]; exact (md_hv_f hb).symm)))
  | true =>
    refine br_f (by decide) ?_
    rw [ha]
    by_cases h : md_sw W i 8 ≤ md_hv (-1000) (md_ba V) (fun s => md_sw W s 8) i
    · exact br_t h (nm_r (nI_1 i) (k _ (md_hv_n (w := fun s => md_sw W s 8) (Int32.not_lt.mpr h)).symm))
    · exact br_f h ((nm_r (nI_1 i) (k _ (md_hv_t (w := fun s => md_sw W s 8) hb (Int32.not_le.mp h)).symm)))
theorem ya_uI {J : Int32 → Int32 → Prop} {a m : Nat} (ha : a < 256) (hm0 : m ≤ 8) (hF : ∀ t, t < 256 → F t = md_bI (md_fr V t)) (hJ : J (nI (md_mx m (md_ub V a) (md_uv a) 256)) (nI (a + 1))) : ∃ n, wY_union_17 post J (nI a) V C W F R n (nI m) 0 := by
  refine loop_0 (fun n i x => wY_union_17 post J (nI a) V C W F R n x (nI i)) (fun i x => x = nI (md_mx m (md_ub V a) (md_uv a) i)) 256 (nI m) rfl (fun n x hx => br_t md_le256 (nm_r (nI_1 a) (by rw [hx]; exact hJ))) (fun n i x hi hx k => ?_)
  have hm : md_mx m (md_ub V a) (md_uv a) i ≤ 8 := md_mx_le hm0 i (fun b _ _ => md_sz8 (a ||| b))
  have ho := md_or256 ha hi
  refine br_f (md_nle256 hi) ⟨md_in256 ha, ?_⟩
  rw [md_cl256 ha, hF a ha]
  cases hf : md_fr V a with
  | false =>
    have h0 : md_ub V a i = false := by unfold md_ub; rw [hf, Bool.false_and]
    exact br_t rfl (nm_r (nI_1 i) (k _ (by rw [hx]; exact congrArg nI (md_mx_f h0).symm)))
  | true =>
    refine br_f (by decide) ⟨md_in256 hi, ?_⟩
    rw [md_cl256 hi, hF i hi]
    cases hg : md_fr V i with
    | false =>
      have h0 : md_ub V a i = false := by unfold md_ub; rw [hg, Bool.and_false]
      exact br_t rfl (nm_r (nI_1 i) (k _ (by rw [hx]; exact congrArg nI (md_mx_f h0).symm)))
    | true =>
      have h0 : md_ub V a i = true := by unfold md_ub; rw [hf, hg] <;> rfl
      refine br_f (by decide) ?_
      rw [md_or]
      refine ya_ones ho ?_
      rw [hx]
      by_cases h : md_uv a i ≤ md_mx m (md_ub V a) (md_uv a) i
      · exact br_t ((md_le_n (md_sz8 _) hm).mpr h) (nm_r (nI_1 i) (k _ (congrArg nI (md_mx_n h).symm)))
      · exact br_f (fun z => h ((md_le_n (md_sz8 _) hm).mp z)) (ya_ones ho ((nm_r (nI_1 i) (k _ (congrArg nI (md_mx_t h0 (Nat.lt_of_not_le h)).symm)))))
theorem ya_union (hp : ∀ F' R' : Nat → Int32, post (nI (md_un V 256)) (V, C, W, F', R')) : wpY_union post (V, C, W, F, R) := by
  unfold wpY_union
  dsimp only
  refine ya_work (fun F' R' hF hR => ?_)
  dsimp only
  refine loop_0 (fun n i a => wY_union_8 post V C W F' R' n a (nI i)) (fun i a => a = nI (md_un V i)) 256 0 rfl (fun n a (ha : a = nI (md_un V 256)) => br_t md_le256 (by rw [ha]; exact hp F' R')) (fun n i a hi (ha : a = nI (md_un V i)) k => ?_)
  refine br_f (md_nle256 hi) ?_
  rw [ha]
  have hu : md_un V i ≤ 8 := by rw [md_un_eq]; exact md_mx8 (md_G8 V) i
  exact ya_uI hi hu hF (k _ rfl)
end
end
section
/-- the same vectors, colours and weights; the class's table holds the rank of each set; colours below 8, weights from -100 to 100 -/
def i_Rel (k : Nat) (u : SX) (v : SY) : Prop :=
  ∃ V C W Q F R : Nat → Int32, u = (V, C, W, Q) ∧ v = (V, C, W, F, R) ∧ (∀ t, t < 256 → Q t = nI (md_R V t)) ∧ (∀ e, e < 8 → ∃ c, c < 8 ∧ C e = nI c) ∧ (∀ e, e < 8 → -100 ≤ (W e).toInt ∧ (W e).toInt ≤ 100)
theorem i_up {k : Nat} {u : SX} {v : SY} (h : i_Rel k u v) : i_Rel (k + 3) u v := h
def md_co : Nat → (Nat → Int32)
  | 0 => fun _ => 0
  | i + 1 => upd (md_co i) i (nI i)
theorem md_co_s (i : Nat) : md_co (i + 1) = upd (md_co i) i (nI i) := rfl
theorem md_co_at : ∀ n e : Nat, e < n → md_co n e = nI e := by
  intro n
  induction n with
  | zero => intro e he; omega
  | succ n ih =>
    intro e he
    rw [md_co_s]
    by_cases q : e = n
    · rw [q]
      exact pk_us
    · rw [pk_un q]
      exact ih e (by omega)
theorem xa_init {post : SX → Prop} (hp : post (fun _ => 0, md_co 8, fun _ => 0, fun _ => 0)) : wpX_init post := by
  refine loop_0 (fun n i c => wX_init_39 post n (nI i) (fun _ => 0) c (fun _ => 0) (fun _ => 0)) (fun i c => c = md_co i) 8 (fun _ => 0) rfl (fun n c (hc : c = md_co 8) => br_t md_le8 (by rw [hc]; exact hp)) (fun n i c hi (hc : c = md_co i) k => ?_)
  refine br_f (md_nle8 hi) ⟨md_in8 hi, nm_r (e' := md_co (i + 1)) ?_ (nm_r (nI_1 i) (k _ rfl))⟩
  rw [hc, md_cl8 hi, md_co_s]
theorem ya_init {post : SY → Prop} (hp : post (fun _ => 0, md_co 8, fun _ => 0, fun _ => 0, fun _ => 0)) : wpY_init post := by
  refine loop_0 (fun n i c => wY_init_48 post n (nI i) (fun _ => 0) c (fun _ => 0) (fun _ => 0) (fun _ => 0)) (fun i c => c = md_co i) 8 (fun _ => 0) rfl (fun n c (hc : c = md_co 8) => br_t md_le8 (by rw [hc]; exact hp)) (fun n i c hi (hc : c = md_co i) k => ?_)
  refine br_f (md_nle8 hi) ⟨md_in8 hi, nm_r (e' := md_co (i + 1)) ?_ (nm_r (nI_1 i) (k _ rfl))⟩
  rw [hc, md_cl8 hi, md_co_s]
theorem i_vc0 : wpX_init (fun u => wpY_init (fun v => i_Rel 0 u v)) := by
  refine xa_init (ya_init ⟨_, _, _, _, _, _, rfl, rfl, fun t _ => ?_, fun e he => ⟨e, he, md_co_at 8 e he⟩, fun e _ => ?_⟩)
  · rw [md_R0] <;> rfl
  · show -100 ≤ (0 : Int32).toInt ∧ (0 : Int32).toInt ≤ 100
    decide
theorem i_vc_vector {k : Nat} {u : SX} {v : SY} (I : i_Rel k u v) (hk : k + 3 ≤ 1536) (v1 : Int32) (v2 : Int32) : wpX_vector (fun u' => wpY_vector (fun v' => i_Rel (k + 3) u' v') v v1 v2) u v1 v2 := by
  obtain ⟨V, C, W, Q, F, R, rfl, rfl, hQ, hC, hW⟩ := I
  obtain ⟨j, hj, ej⟩ := md_ex7 v1
  have hin : vp_in (v1 &&& 7) 8 := by rw [ej]; exact md_in8 hj
  unfold wpX_vector
  dsimp only
  refine ⟨hin, nm_e (xa_upd (fun Q' hQ' => ?_))⟩
  dsimp only
  unfold wpY_vector
  dsimp only
  exact ⟨hin, nm_e ⟨_, _, _, _, _, _, rfl, rfl, hQ', hC, hW⟩⟩
theorem i_vc_colour {k : Nat} {u : SX} {v : SY} (I : i_Rel k u v) (hk : k + 3 ≤ 1536) (v1 : Int32) (v2 : Int32) : wpX_colour (fun u' => wpY_colour (fun v' => i_Rel (k + 3) u' v') v v1 v2) u v1 v2 := by
  obtain ⟨V, C, W, Q, F, R, rfl, rfl, hQ, hC, hW⟩ := I
  obtain ⟨j, hj, ej⟩ := md_ex7 v1
  obtain ⟨c, hc, ec⟩ := md_ex7 v2
  have hin : vp_in (v1 &&& 7) 8 := by rw [ej]; exact md_in8 hj
  unfold wpX_colour
  dsimp only
  refine ⟨hin, nm_e ?_⟩
  unfold wpY_colour
  dsimp only
  refine ⟨hin, nm_e ⟨_, _, _, _, _, _, rfl, rfl, hQ, fun e he => ?_, hW⟩⟩
  by_cases q : e = (v1 &&& 7).toNatClampNeg
  · refine ⟨c, hc, ?_⟩
    rw [q, pk_us]
    exact ec
  · rw [pk_un q]
    exact hC e he
theorem md_relw {k : Nat} {V C W Q F R : Nat → Int32} {x : Int32} {j : Nat} (hQ : ∀ t, t < 256 → Q t = nI (md_R V t)) (hC : ∀ e, e < 8 → ∃ c, c < 8 ∧ C e = nI c) (hW : ∀ e, e < 8 → -100 ≤ (W e).toInt ∧ (W e).toInt ≤ 100) (hx : -100 ≤ x.toInt ∧ x.toInt ≤ 100) : i_Rel k (V, C, upd W j x, Q) (V, C, upd W j x, F, R) := by
  refine ⟨_, _, _, _, _, _, rfl, rfl, hQ, hC, fun e he => ?_⟩
  by_cases q : e = j
  · rw [q, pk_us]
    exact hx
  · rw [pk_un q]
    exact hW e he
theorem xa_w20 {V C W Q : Nat → Int32} {post : SX → Prop} {p x : Int32} (hin : vp_in (p &&& 7) 8) (h : post (V, C, upd W (p &&& 7).toNatClampNeg x, Q)) : wX_weight_20 post p x V C W Q := by
  unfold wX_weight_20
  exact ⟨hin, nm_e h⟩
theorem i_vc_weight {k : Nat} {u : SX} {v : SY} (I : i_Rel k u v) (hk : k + 3 ≤ 1536) (v1 : Int32) (v2 : Int32) : wpX_weight (fun u' => wpY_weight (fun v' => i_Rel (k + 3) u' v') v v1 v2) u v1 v2 := by
  obtain ⟨V, C, W, Q, F, R, rfl, rfl, hQ, hC, hW⟩ := I
  obtain ⟨j, hj, ej⟩ := md_ex7 v1
  have hin : vp_in (v1 &&& 7) 8 := by rw [ej]; exact md_in8 hj
  have c1 : (-100 : Int32).toInt = -100 := by decide
  have c2 : (100 : Int32).toInt = 100 := by decide
  unfold wpX_weight wX_weight_11 wpY_weight
  dsimp only
  by_cases h1 : (-100 : Int32) ≤ v2
  · by_cases h2 : v2 ≤ 100
    · have b1 := Int32.le_iff_toInt_le.mp h1
      have b2 := Int32.le_iff_toInt_le.mp h2
      rw [c1] at b1
      rw [c2] at b2
      exact br_t h1 (br_t h2 (xa_w20 hin (br_t h1 (br_t h2 ⟨hin, nm_e (md_relw hQ hC hW ⟨b1, b2⟩)⟩))))
    · exact br_t h1 (br_f h2 (xa_w20 hin (br_t h1 (br_f h2 ⟨hin, nm_e (md_relw hQ hC hW (by rw [c2]; decide))⟩))))
  · exact br_f h1 (br_t (by decide) (xa_w20 hin (br_f h1 ⟨hin, nm_e (md_relw hQ hC hW (by rw [c1]; decide))⟩)))
theorem i_vc_rank {k : Nat} {u : SX} {v : SY} (I : i_Rel k u v) (hk : k + 3 ≤ 1536) (v1 : Int32) : wpX_rank (fun r => wpY_rank (fun r' v' => r' = r ∧ i_Rel (k + 3) u v') v v1) u v1 := by
  obtain ⟨V, C, W, Q, F, R, rfl, rfl, hQ, hC, hW⟩ := I
  obtain ⟨j, hj, ej⟩ := md_ex255 v1
  exact xa_rank hQ hj ej (ya_rank hj ej (fun F' R' => ⟨rfl, _, _, _, _, _, _, rfl, rfl, hQ, hC, hW⟩))
theorem i_vc_closure {k : Nat} {u : SX} {v : SY} (I : i_Rel k u v) (hk : k + 3 ≤ 1536) (v1 : Int32) : wpX_closure (fun r => wpY_closure (fun r' v' => r' = r ∧ i_Rel (k + 3) u v') v v1) u v1 := by
  obtain ⟨V, C, W, Q, F, R, rfl, rfl, hQ, hC, hW⟩ := I
  obtain ⟨j, hj, ej⟩ := md_ex255 v1
  exact xa_clo hQ hj ej (ya_clo hj ej (fun F' R' => ⟨rfl, _, _, _, _, _, _, rfl, rfl, hQ, hC, hW⟩))
theorem i_vc_bases {k : Nat} {u : SX} {v : SY} (I : i_Rel k u v) (hk : k + 3 ≤ 1536) : wpX_bases (fun r => wpY_bases (fun r' v' => r' = r ∧ i_Rel (k + 3) u v') v) u := by
  obtain ⟨V, C, W, Q, F, R, rfl, rfl, hQ, hC, hW⟩ := I
  exact xa_bases hQ (ya_bases (fun F' R' => ⟨rfl, _, _, _, _, _, _, rfl, rfl, hQ, hC, hW⟩))
theorem i_vc_polynomial {k : Nat} {u : SX} {v : SY} (I : i_Rel k u v) (hk : k + 3 ≤ 1536) (v1 : Int32) (v2 : Int32) : wpX_polynomial (fun r => wpY_polynomial (fun r' v' => r' = r ∧ i_Rel (k + 3) u v') v v1 v2) u v1 v2 := by
  obtain ⟨V, C, W, Q, F, R, rfl, rfl, hQ, hC, hW⟩ := I
  exact xa_poly hQ (ya_poly (fun F' R' => ⟨rfl, _, _, _, _, _, _, rfl, rfl, hQ, hC, hW⟩))
theorem i_vc_rainbow {k : Nat} {u : SX} {v : SY} (I : i_Rel k u v) (hk : k + 3 ≤ 1536) : wpX_rainbow (fun r => wpY_rainbow (fun r' v' => r' = r ∧ i_Rel (k + 3) u v') v) u := by
  obtain ⟨V, C, W, Q, F, R, rfl, rfl, hQ, hC, hW⟩ := I
  exact xa_rain hQ (ya_rain hC (fun F' R' => ⟨rfl, _, _, _, _, _, _, rfl, rfl, hQ, hC, hW⟩))
theorem i_vc_heaviest {k : Nat} {u : SX} {v : SY} (I : i_Rel k u v) (hk : k + 3 ≤ 1536) : wpX_heaviest (fun r => wpY_heaviest (fun r' v' => r' = r ∧ i_Rel (k + 3) u v') v) u := by
  obtain ⟨V, C, W, Q, F, R, rfl, rfl, hQ, hC, hW⟩ := I
  exact xa_heavy hQ (ya_heavy (fun F' R' => ⟨md_he_eq hW, _, _, _, _, _, _, rfl, rfl, hQ, hC, hW⟩))
theorem i_vc_circuits {k : Nat} {u : SX} {v : SY} (I : i_Rel k u v) (hk : k + 3 ≤ 1536) : wpX_circuits (fun r => wpY_circuits (fun r' v' => r' = r ∧ i_Rel (k + 3) u v') v) u := by
  obtain ⟨V, C, W, Q, F, R, rfl, rfl, hQ, hC, hW⟩ := I
  exact xa_circs hQ (ya_circs (fun F' R' => ⟨rfl, _, _, _, _, _, _, rfl, rfl, hQ, hC, hW⟩))
theorem i_vc_union {k : Nat} {u : SX} {v : SY} (I : i_Rel k u v) (hk : k + 3 ≤ 1536) : wpX_union (fun r => wpY_union (fun r' v' => r' = r ∧ i_Rel (k + 3) u v') v) u := by
  obtain ⟨V, C, W, Q, F, R, rfl, rfl, hQ, hC, hW⟩ := I
  exact xa_union hQ (ya_union (fun F' R' => ⟨rfl, _, _, _, _, _, _, rfl, rfl, hQ, hC, hW⟩))
end
