/-! ===== the class: private methods ===== -/
theorem xa_size {post : Int32 → Prop} {s : Nat} (hs : s < 256) (hp : post (nI (md_sz s))) : wpX_size post (nI s) := by
  refine loop_0 (fun n i a => wX_size_4 post (nI s) n a (nI i)) (fun i a => a = nI (md_szu s i)) 8 0 rfl (fun n a (ha : a = nI (md_szu s 8)) => br_t md_le8 (by rw [ha]; exact hp)) (fun n i a hi (ha : a = nI (md_szu s i)) k => ?_)
  refine br_f (md_nle8 hi) (nm_r (e' := nI (md_szu s (i + 1))) ?_ (nm_r (nI_1 i) (k _ rfl)))
  rw [ha, md_shr hs hi, nI_add, md_szu_s]
theorem xa_has {post : Int32 → Prop} {s e : Nat} (hs : s < 256) (he : e < 8) (hp : post (nI (md_bit s e))) : wpX_has post (nI s) (nI e) := by
  unfold wpX_has
  rw [md_shr hs he]
  rcases md_bit01 s e with h | h
  · rw [h] at hp ⊢
    exact br_t rfl hp
  · rw [h] at hp ⊢
    exact br_f (by decide) hp
theorem xa_pow {post : Int32 → Prop} {b : Int32} {m : Nat} (hm : m ≤ 8) (hp : post (md_pw b m)) : wpX_power post b (nI m) := by
  refine loop_0 (fun n i a => wX_power_4 post b (nI m) n a (nI i)) (fun i a => a = md_pw b i) m 1 rfl (fun n a (ha : a = md_pw b m) => br_t (nI_le (Nat.le_refl m) (by omega)) (by rw [ha]; exact hp)) (fun n i a hi (ha : a = md_pw b i) k => ?_)
  refine br_f (nI_ge hi (by omega)) (nm_r (e' := md_pw b (i + 1)) ?_ (nm_r (nI_1 i) (k _ rfl)))
  rw [ha, md_pw_s]
section
variable {V C W Q U : Nat → Int32} {post : Int32 → Prop} {s : Nat}
theorem xa_xor (hs : s < 256) (hp : post (md_X V s)) : wpX_exclusiveOr post (V, C, W, Q) (nI s) := by
  refine loop_0 (fun n i a => wX_exclusiveOr_4 post (nI s) V C W Q n a (nI i)) (fun i a => a = md_xo V s i) 8 0 rfl (fun n a (ha : a = md_xo V s 8) => br_t md_le8 (by rw [ha]; exact hp)) (fun n i a hi (ha : a = md_xo V s i) k => ?_)
  refine br_f (md_nle8 hi) (xa_has hs hi ?_)
  by_cases hb : md_bit s i = 1
  · refine br_f (fun z => md_n01.mp z hb) ⟨md_in8 hi, nm_r (e' := md_xo V s (i + 1)) ?_ (nm_r (nI_1 i) (k _ rfl))⟩
    rw [ha, md_cl8 hi]
    exact (if_pos hb).symm
  · refine br_t (md_n01.mpr hb) (nm_r (nI_1 i) (k _ ?_))
    rw [ha]
    exact (if_neg hb).symm
theorem xa_ind (hs : s < 256) (hq : Q s = nI (md_R U s)) (hp : post (md_bI (md_fr U s))) : wpX_isIndependent post (V, C, W, Q) (nI s) := by
  unfold wpX_isIndependent
  dsimp only
  refine ⟨md_in256 hs, xa_size hs ?_⟩
  rw [md_cl256 hs, hq]
  by_cases h : md_fr U s = true
  · refine br_t (by rw [(md_fr_R hs).mp h]) ?_
    rw [md_bI_t h] at hp
    exact hp
  · refine br_f (fun z => h ((md_fr_R hs).mpr ((md_eq_n (md_R8 U s) (md_sz8 s)).mp z))) ?_
    rw [md_bI_f (Bool.eq_false_iff.mpr h)] at hp
    exact hp
theorem xa_rai (hs : s < 256) (hq : ∀ t, t < s → Q t = nI (md_R U t)) (hp : post (md_bI (md_ra U s))) : wpX_restsAreIndependent post (V, C, W, Q) (nI s) := by
  refine loop_0 (fun n i (_ : Unit) => wX_restsAreIndependent_2 post (nI s) V C W Q n (nI i)) (fun i _ => md_all (md_raP U s) i = true) 8 () rfl (fun n _ ha => br_t md_le8 (by rw [md_bI_t (b := md_ra U s) ha] at hp; exact hp)) (fun n i _ hi ha k => ?_)
  refine br_f (md_nle8 hi) (xa_has hs hi ?_)
  by_cases hb : md_bit s i = 1
  · have hl := (md_rest_tab s hs i hi hb).1
    refine br_f (fun z => md_n01.mp z hb) (nm_r (md_xr hi) (xa_ind (U := U) (by omega) (hq _ hl) ?_))
    cases hf : md_fr U (s ^^^ 2 ^ i) with
    | false =>
      have h0 : md_ra U s = false := md_all_no hi (md_raP_f hb hf)
      rw [md_bI_f h0] at hp
      exact br_t rfl hp
    | true =>
      refine br_f (by decide) (nm_r (nI_1 i) (k () ?_))
      exact md_all_t ha (md_raP_t hf)
  · refine br_t (md_n01.mpr hb) (nm_r (nI_1 i) (k () ?_))
    exact md_all_t ha (md_raP_n hb)
theorem xa_grr (hs : s < 256) (hq : ∀ t, t < s → Q t = nI (md_R U t)) (hp : post (nI (md_gr U s 8))) : wpX_greatestRankOfRests post (V, C, W, Q) (nI s) := by
  refine loop_0 (fun n i a => wX_greatestRankOfRests_4 post (nI s) V C W Q n a (nI i)) (fun i a => a = nI (md_gr U s i)) 8 0 rfl (fun n a (ha : a = nI (md_gr U s 8)) => br_t md_le8 (by rw [ha]; exact hp)) (fun n i a hi (ha : a = nI (md_gr U s i)) k => ?_)
  refine br_f (md_nle8 hi) (xa_has hs hi ?_)
  by_cases hb : md_bit s i = 1
  · have hl := (md_rest_tab s hs i hi hb).1
    have hl2 : s ^^^ 2 ^ i < 256 := by omega
    refine br_f (fun z => md_n01.mp z hb) (nm_r (md_xr hi) ⟨md_in256 hl2, ?_⟩)
    rw [md_cl256 hl2, hq _ hl, ha]
    have h8 : md_gr U s i ≤ 8 := md_mx8 (fun e => md_R8 U (s ^^^ 2 ^ e)) i
    by_cases h : md_R U (s ^^^ 2 ^ i) ≤ md_gr U s i
    · refine br_t ((md_le_n (md_R8 U _) h8).mpr h) (nm_r (nI_1 i) (k _ ?_))
      exact congrArg nI (md_mx_n (c := md_grc s) (v := md_grv U s) h).symm
    · refine br_f (fun z => h ((md_le_n (md_R8 U _) h8).mp z)) ⟨md_in256 hl2, nm_r (e' := nI (md_gr U s (i + 1))) ?_ (nm_r (nI_1 i) (k _ rfl))⟩
      exact congrArg nI (md_mx_t (c := md_grc s) (v := md_grv U s) (decide_eq_true hb) (Nat.lt_of_not_le h)).symm
  · refine br_t (md_n01.mpr hb) (nm_r (nI_1 i) (k _ ?_))
    rw [ha]
    exact congrArg nI (md_mx_f (c := md_grc s) (v := md_grv U s) (decide_eq_false hb)).symm
theorem xa_rfs (hs : s < 256) (hq : ∀ t, t < s → Q t = nI (md_R V t)) (hp : post (nI (md_R V s))) : wpX_rankFromSmallerSets post (V, C, W, Q) (nI s) := by
  have hB : (md_X V s = 0 ∨ md_ra V s = false) → wX_rankFromSmallerSets_20 post (nI s) V C W Q := by
    intro h
    unfold wX_rankFromSmallerSets_20 wX_rankFromSmallerSets_21
    refine br_t rfl (xa_grr (U := V) hs hq ?_)
    rw [← md_stepB hs h]
    exact hp
  unfold wpX_rankFromSmallerSets
  dsimp only
  refine xa_xor hs ?_
  by_cases hx : md_X V s = 0
  · exact br_t hx (hB (Or.inl hx))
  · refine br_f hx (xa_rai (U := V) hs hq ?_)
    cases hr : md_ra V s with
    | false => exact br_t rfl (hB (Or.inr hr))
    | true =>
      refine br_f (by decide) ?_
      unfold wX_rankFromSmallerSets_21
      refine br_f (by decide) (xa_size hs ?_)
      rw [← md_stepA hs hx hr]
      exact hp
theorem xa_upd {post : SX → Prop} (hp : ∀ Q' : Nat → Int32, (∀ t, t < 256 → Q' t = nI (md_R V t)) → post (V, C, W, Q')) : wpX_updateRanks post (V, C, W, Q) := by
  refine loop_0 (fun n i q => wX_updateRanks_2 post n (nI i) V C W q) (fun i q => ∀ t, t < i → q t = nI (md_R V t)) 256 Q (fun t ht => absurd ht (Nat.not_lt_zero t)) (fun n q hq => br_t md_le256 (hp q hq)) (fun n i q hi hq k => ?_)
  refine br_f (md_nle256 hi) (xa_rfs hi hq ⟨md_in256 hi, ?_⟩)
  rw [md_cl256 hi]
  refine nm_e (nm_r (nI_1 i) (k _ (fun t ht => ?_)))
  by_cases e : t = i
  · rw [e]
    exact pk_us
  · rw [pk_un e]
    exact hq t (by omega)
end
