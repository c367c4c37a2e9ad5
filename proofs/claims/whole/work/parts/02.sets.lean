/-! ===== sets as numbers below 256: bits, sizes, parts, rests ===== -/
def md_bit (s e : Nat) : Nat := s / 2 ^ e % 2
def md_szu (s : Nat) : Nat → Nat
  | 0 => 0
  | e + 1 => md_szu s e + md_bit s e
theorem md_szu_s (s e : Nat) : md_szu s (e + 1) = md_szu s e + md_bit s e := rfl
def md_sz (s : Nat) : Nat := md_szu s 8
theorem md_bit01 (s e : Nat) : md_bit s e = 0 ∨ md_bit s e = 1 := Nat.mod_two_eq_zero_or_one _
theorem md_tb (s e : Nat) : s.testBit e = decide (md_bit s e = 1) := Nat.testBit_eq_decide_div_mod_eq
theorem md_tb1 {s e : Nat} : s.testBit e = true ↔ md_bit s e = 1 := by rw [md_tb, decide_eq_true_iff]
theorem md_sub_iff {s p : Nat} : s &&& p = p ↔ ∀ e, md_bit p e = 1 → md_bit s e = 1 := by
  constructor
  · intro h e he
    have h1 : (s &&& p).testBit e = p.testBit e := by rw [h]
    rw [Nat.testBit_and, md_tb1.mpr he, Bool.and_true] at h1
    exact md_tb1.mp h1
  · intro h
    apply Nat.eq_of_testBit_eq
    intro e
    rw [Nat.testBit_and]
    cases hp : p.testBit e with
    | false => rw [Bool.and_false]
    | true =>
      rw [Bool.and_true]
      exact md_tb1.mpr (h e (md_tb1.mp hp))
theorem md_self (s : Nat) : s &&& s = s := md_sub_iff.mpr (fun _ h => h)
theorem md_sub_trans {a b c : Nat} (h1 : a &&& b = b) (h2 : b &&& c = c) : a &&& c = c :=
  md_sub_iff.mpr (fun e he => md_sub_iff.mp h1 e (md_sub_iff.mp h2 e he))
theorem md_rest_bit {s e i : Nat} (h : md_bit s e = 1) : md_bit (s ^^^ 2 ^ e) i = 1 ↔ (md_bit s i = 1 ∧ i ≠ e) := by
  have ht : (s ^^^ 2 ^ e).testBit i = (s.testBit i ^^ decide (e = i)) := by
    rw [Nat.testBit_xor, Nat.testBit_two_pow]
  rw [← md_tb1, ← md_tb1, ht]
  by_cases c : e = i
  · subst c
    rw [md_tb1.mpr h]
    simp
  · have hd : decide (e = i) = false := decide_eq_false c
    rw [hd]
    cases s.testBit i with
    | false => exact ⟨fun z => absurd z (by decide), fun z => absurd z.1 (by decide)⟩
    | true => exact ⟨fun _ => ⟨rfl, fun q => c q.symm⟩, fun _ => rfl⟩
theorem md_rest_sub {s e : Nat} (h : md_bit s e = 1) : s &&& (s ^^^ 2 ^ e) = s ^^^ 2 ^ e :=
  md_sub_iff.mpr (fun _ hi => ((md_rest_bit h).mp hi).1)
theorem md_rest_tab : ∀ s, s < 256 → ∀ e, e < 8 → md_bit s e = 1 → s ^^^ 2 ^ e < s ∧ md_sz (s ^^^ 2 ^ e) + 1 = md_sz s := by decide +kernel
theorem md_hi {s e : Nat} (hs : s < 256) (h : md_bit s e = 1) : e < 8 := by
  rcases Nat.lt_or_ge e 8 with q | q
  · exact q
  · have hp : 2 ^ 8 ≤ 2 ^ e := Nat.pow_le_pow_right (by decide) q
    have hs2 : s < 2 ^ 8 := hs
    have h1 : s / 2 ^ e = 0 := Nat.div_eq_of_lt (Nat.lt_of_lt_of_le hs2 hp)
    unfold md_bit at h
    rw [h1] at h
    exact absurd h (by decide)
theorem md_prop {s p : Nat} (hs : s < 256) (h : s &&& p = p) (hn : p ≠ s) : ∃ e, e < 8 ∧ md_bit s e = 1 ∧ (s ^^^ 2 ^ e) &&& p = p := by
  obtain ⟨i, hi⟩ := Nat.exists_testBit_ne_of_ne hn
  have hsub := md_sub_iff.mp h
  have hp : ¬ md_bit p i = 1 := by
    intro hp
    exact hi (by rw [md_tb1.mpr hp, md_tb1.mpr (hsub i hp)])
  have hs1 : md_bit s i = 1 := by
    rcases md_bit01 s i with z | z
    · exfalso
      apply hi
      have hz : ¬ md_bit s i = 1 := by omega
      rw [md_tb, md_tb, decide_eq_false hp, decide_eq_false hz]
    · exact z
  refine ⟨i, md_hi hs hs1, hs1, md_sub_iff.mpr ?_⟩
  intro j hj
  exact (md_rest_bit hs1).mpr ⟨hsub j hj, fun q => hp (by rw [← q]; exact hj)⟩
theorem md_szu_le {s p : Nat} (h : s &&& p = p) : ∀ e, md_szu p e ≤ md_szu s e := by
  intro e
  induction e with
  | zero => exact Nat.le_refl _
  | succ e ih =>
    have h3 := md_bit01 s e
    show md_szu p e + md_bit p e ≤ md_szu s e + md_bit s e
    rcases md_bit01 p e with z | z
    · omega
    · have h1 := md_sub_iff.mp h e z
      omega
theorem md_sz_le {s p : Nat} (h : s &&& p = p) : md_sz p ≤ md_sz s := md_szu_le h 8
theorem md_szu_b (s : Nat) : ∀ e, md_szu s e ≤ e := by
  intro e
  induction e with
  | zero => exact Nat.le_refl _
  | succ e ih =>
    have h3 := md_bit01 s e
    show md_szu s e + md_bit s e ≤ e + 1
    omega
theorem md_sz8 (s : Nat) : md_sz s ≤ 8 := md_szu_b s 8
theorem md_sub_255 : ∀ s, s < 256 → 255 &&& s = s := by decide +kernel
/-! ===== greatest values, all of a row ===== -/
def md_mx (m : Nat) (c : Nat → Bool) (v : Nat → Nat) : Nat → Nat
  | 0 => m
  | i + 1 => if c i = true ∧ md_mx m c v i < v i then v i else md_mx m c v i
theorem md_mx_s (m : Nat) (c : Nat → Bool) (v : Nat → Nat) (i : Nat) : md_mx m c v (i + 1) = if c i = true ∧ md_mx m c v i < v i then v i else md_mx m c v i := rfl
theorem md_mx_t {m : Nat} {c : Nat → Bool} {v : Nat → Nat} {i : Nat} (hc : c i = true) (h : md_mx m c v i < v i) : md_mx m c v (i + 1) = v i := (md_mx_s m c v i).trans (if_pos ⟨hc, h⟩)
theorem md_mx_f {m : Nat} {c : Nat → Bool} {v : Nat → Nat} {i : Nat} (hc : c i = false) : md_mx m c v (i + 1) = md_mx m c v i :=
  (md_mx_s m c v i).trans (if_neg (fun z => by rw [hc] at z; exact absurd z.1 (by decide)))
theorem md_mx_n {m : Nat} {c : Nat → Bool} {v : Nat → Nat} {i : Nat} (h : v i ≤ md_mx m c v i) : md_mx m c v (i + 1) = md_mx m c v i :=
  (md_mx_s m c v i).trans (if_neg (fun z => by have h2 := z.2; omega))
theorem md_mx_up (m : Nat) (c : Nat → Bool) (v : Nat → Nat) (i : Nat) : md_mx m c v i ≤ md_mx m c v (i + 1) := by
  rw [md_mx_s]
  split
  · omega
  · exact Nat.le_refl _
theorem md_mx_ge {m : Nat} {c : Nat → Bool} {v : Nat → Nat} : ∀ (n i : Nat), i < n → c i = true → v i ≤ md_mx m c v n := by
  intro n
  induction n with
  | zero => intro i hi; omega
  | succ n ih =>
    intro i hi hc
    rcases Nat.lt_or_ge i n with q | q
    · exact Nat.le_trans (ih i q hc) (md_mx_up m c v n)
    · have e : i = n := by omega
      rw [e] at hc ⊢
      rw [md_mx_s]
      split
      · exact Nat.le_refl _
      · rename_i z
        rcases Nat.lt_or_ge (md_mx m c v n) (v n) with y | y
        · exact absurd ⟨hc, y⟩ z
        · exact y
theorem md_mx_le {m : Nat} {c : Nat → Bool} {v : Nat → Nat} {b : Nat} (hm : m ≤ b) : ∀ (n : Nat), (∀ i, i < n → c i = true → v i ≤ b) → md_mx m c v n ≤ b := by
  intro n
  induction n with
  | zero => intro _; exact hm
  | succ n ih =>
    intro h
    rw [md_mx_s]
    split
    · rename_i z
      exact h n (Nat.lt_succ_self n) z.1
    · exact ih (fun i hi => h i (by omega))
theorem md_mx_ex {m : Nat} {c : Nat → Bool} {v : Nat → Nat} : ∀ (n : Nat), md_mx m c v n = m ∨ ∃ i, i < n ∧ c i = true ∧ md_mx m c v n = v i := by
  intro n
  induction n with
  | zero => exact Or.inl rfl
  | succ n ih =>
    rw [md_mx_s]
    split
    · rename_i z
      exact Or.inr ⟨n, Nat.lt_succ_self n, z.1, rfl⟩
    · rcases ih with e | ⟨i, hi, hc, e⟩
      · exact Or.inl e
      · exact Or.inr ⟨i, by omega, hc, e⟩
theorem md_mx_max (m : Nat) (c : Nat → Bool) (v : Nat → Nat) : ∀ (n : Nat), md_mx m c v n = if m < md_mx 0 c v n then md_mx 0 c v n else m := by
  intro n
  induction n with
  | zero =>
    show m = if m < 0 then 0 else m
    rw [if_neg (Nat.not_lt_zero m)]
  | succ n ih =>
    rw [md_mx_s, md_mx_s, ih]
    generalize md_mx 0 c v n = A
    by_cases hc : c n = true
    · by_cases h1 : m < A <;> by_cases h2 : A < v n <;> by_cases h3 : m < v n <;> simp [hc, h1, h2, h3] <;> omega
    · simp [hc]
theorem md_mx_no {m : Nat} {c : Nat → Bool} {v : Nat → Nat} : ∀ (n : Nat), (∀ i, i < n → c i = false) → md_mx m c v n = m := by
  intro n
  induction n with
  | zero => intro _; rfl
  | succ n ih =>
    intro h
    rw [md_mx_f (h n (Nat.lt_succ_self n))]
    exact ih (fun i hi => h i (by omega))
def md_all (P : Nat → Bool) : Nat → Bool
  | 0 => true
  | n + 1 => md_all P n && P n
theorem md_all_s (P : Nat → Bool) (n : Nat) : md_all P (n + 1) = (md_all P n && P n) := rfl
theorem md_all_iff {P : Nat → Bool} : ∀ (n : Nat), md_all P n = true ↔ ∀ i, i < n → P i = true := by
  intro n
  induction n with
  | zero => exact ⟨fun _ p hp => absurd hp (Nat.not_lt_zero p), fun _ => rfl⟩
  | succ n ih =>
    rw [md_all_s, Bool.and_eq_true, ih]
    constructor
    · intro h i hi
      rcases Nat.lt_or_ge i n with q | q
      · exact h.1 i q
      · have e : i = n := by omega
        rw [e]
        exact h.2
    · intro h
      exact ⟨fun i hi => h i (by omega), h n (Nat.lt_succ_self n)⟩
theorem md_all_no {P : Nat → Bool} {n i : Nat} (hi : i < n) (h : P i = false) : md_all P n = false := by
  cases e : md_all P n with
  | false => rfl
  | true =>
    have := (md_all_iff n).mp e i hi
    rw [h] at this
    exact absurd this (by decide)
