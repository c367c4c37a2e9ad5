/-! ===== the reference: private methods ===== -/
theorem ya_ones {post : Int32 → Prop} {s : Nat} (hs : s < 256) (hp : post (nI (md_sz s))) : wpY_ones post (nI s) := by
  refine loop_0 (fun n i a => wY_ones_4 post (nI s) n a (nI i)) (fun i a => a = nI (md_szu s i)) 8 0 rfl (fun n a (ha : a = nI (md_szu s 8)) => br_t md_le8 (by rw [ha]; exact hp)) (fun n i a hi (ha : a = nI (md_szu s i)) k => ?_)
  refine br_f (md_nle8 hi) (nm_r (e' := nI (md_szu s (i + 1))) ?_ (nm_r (nI_1 i) (k _ rfl)))
  rw [ha, md_shr hs hi, nI_add, md_szu_s]
theorem ya_pow {post : Int32 → Prop} {b : Int32} {m : Nat} (hm : m ≤ 8) (hp : post (md_pw b m)) : wpY_power post b (nI m) := by
  refine loop_0 (fun n i a => wY_power_4 post b (nI m) n a (nI i)) (fun i a => a = md_pw b i) m 1 rfl (fun n a (ha : a = md_pw b m) => br_t (nI_le (Nat.le_refl m) (by omega)) (by rw [ha]; exact hp)) (fun n i a hi (ha : a = md_pw b i) k => ?_)
  refine br_f (nI_ge hi (by omega)) (nm_r (e' := md_pw b (i + 1)) ?_ (nm_r (nI_1 i) (k _ rfl)))
  rw [ha, md_pw_s]
section
variable {V C W F R : Nat → Int32} {post : Int32 → Prop} {s : Nat}
theorem ya_sum (hs : s < 256) (hp : post (md_X V s)) : wpY_sumOf post (V, C, W, F, R) (nI s) := by
  refine loop_0 (fun n i a => wY_sumOf_4 post (nI s) V C W F R n a (nI i)) (fun i a => a = md_xo V s i) 8 0 rfl (fun n a (ha : a = md_xo V s 8) => br_t md_le8 (by rw [ha]; exact hp)) (fun n i a hi (ha : a = md_xo V s i) k => ?_)
  refine br_f (md_nle8 hi) ?_
  rw [md_shr hs hi]
  by_cases hb : md_bit s i = 1
  · refine br_t (md_n11.mpr hb) ⟨md_in8 hi, nm_r (e' := md_xo V s (i + 1)) ?_ (nm_r (nI_1 i) (k _ rfl))⟩
    rw [ha, md_cl8 hi]
    exact (if_pos hb).symm
  · refine br_f (fun z => hb (md_n11.mp z)) (nm_r (nI_1 i) (k _ ?_))
    rw [ha]
    exact (if_neg hb).symm
theorem ya_wt (hs : s < 256) (hp : post (md_sw W s 8)) : wpY_weightOf post (V, C, W, F, R) (nI s) := by
  refine loop_0 (fun n i a => wY_weightOf_4 post (nI s) V C W F R n a (nI i)) (fun i a => a = md_sw W s i) 8 0 rfl (fun n a (ha : a = md_sw W s 8) => br_t md_le8 (by rw [ha]; exact hp)) (fun n i a hi (ha : a = md_sw W s i) k => ?_)
  refine br_f (md_nle8 hi) ?_
  rw [md_shr hs hi]
  by_cases hb : md_bit s i = 1
  · refine br_t (md_n11.mpr hb) ⟨md_in8 hi, nm_r (e' := md_sw W s (i + 1)) ?_ (nm_r (nI_1 i) (k _ rfl))⟩
    rw [ha, md_cl8 hi]
    exact (if_pos hb).symm
  · refine br_f (fun z => hb (md_n11.mp z)) (nm_r (nI_1 i) (k _ ?_))
    rw [ha]
    exact (if_neg hb).symm
theorem ya_col (hC : ∀ e, e < 8 → ∃ c, c < 8 ∧ C e = nI c) (hs : s < 256) (hp : post (md_bI (md_dc C s))) : wpY_coloured post (V, C, W, F, R) (nI s) := by
  refine loop_0 (fun n i a => wY_coloured_4 post (nI s) V C W F R n a (nI i)) (fun i a => a = md_sn C s i ∧ md_all (md_dcP C s) i = true) 8 0 ⟨rfl, rfl⟩ (fun n a (ha : a = md_sn C s 8 ∧ md_all (md_dcP C s) 8 = true) => br_t md_le8 (by rw [md_bI_t (b := md_dc C s) ha.2] at hp; exact hp)) (fun n i a hi (ha : a = md_sn C s i ∧ md_all (md_dcP C s) i = true) k => ?_)
  obtain ⟨ha, hall⟩ := ha
  obtain ⟨c, hc, ec⟩ := hC i hi
  have hseen := md_seen (md_sn C s i) hc
  rw [← ec] at hseen
  refine br_f (md_nle8 hi) ?_
  rw [md_shr hs hi]
  by_cases hb : md_bit s i = 1
  · refine br_t (md_n11.mpr hb) ⟨md_in8 hi, ?_⟩
    rw [md_cl8 hi, ha]
    by_cases h : (md_sn C s i &&& ((1 : Int32) <<< (C i &&& 31))) = 0
    · refine br_f (hseen.mp h) ⟨md_in8 hi, nm_r (e' := md_sn C s (i + 1)) (if_pos hb).symm (nm_r (nI_1 i) (k _ ⟨rfl, ?_⟩))⟩
      exact md_all_t hall (md_dcP_t (fun z => z.2 h))
    · have h0 : md_dc C s = false := md_all_no hi (md_dcP_f hb h)
      rw [md_bI_f h0] at hp
      exact br_t (Classical.byContradiction (fun z => h (hseen.mpr z))) hp
  · refine br_f (fun z => hb (md_n11.mp z)) (nm_r (nI_1 i) (k _ ⟨?_, ?_⟩))
    · rw [ha]
      exact (if_neg hb).symm
    · exact md_all_t hall (md_dcP_t (fun z => hb z.1))
theorem ya_base {U : Nat → Int32} (hs : s < 256) (hF : ∀ t, t < 256 → F t = md_bI (md_fr U t)) (hR : ∀ t, t < 256 → R t = nI (md_R U t)) (hp : post (md_bI (md_ba U s))) : wpY_base post (V, C, W, F, R) (nI s) := by
  unfold wpY_base
  dsimp only
  refine ⟨md_in256 hs, ?_⟩
  rw [md_cl256 hs, hF s hs]
  cases hf : md_fr U s with
  | false =>
    have h0 := md_ba_f hf
    rw [md_bI_f h0] at hp
    exact br_t rfl hp
  | true =>
    refine br_f (by decide) (ya_ones hs ?_)
    rw [hR 255 (by decide)]
    by_cases h : md_sz s = md_R U 255
    · have h0 := md_ba_t hf h
      rw [md_bI_t h0] at hp
      exact br_t (by rw [h]) hp
    · have h0 := md_ba_n h
      rw [md_bI_f h0] at hp
      exact br_f (fun z => h ((md_eq_n (md_sz8 s) (md_R8 U 255)).mp z)) hp
theorem ya_cir {U : Nat → Int32} (hs : s < 256) (hF : ∀ t, t < 256 → F t = md_bI (md_fr U t)) (hp : post (md_bI (md_ci U s))) : wpY_circuit post (V, C, W, F, R) (nI s) := by
  unfold wpY_circuit
  dsimp only
  refine ⟨md_in256 hs, ?_⟩
  rw [md_cl256 hs, hF s hs]
  cases hf : md_fr U s with
  | true =>
    have h0 := md_ci_f hf
    rw [md_bI_f h0] at hp
    exact br_f (by decide) hp
  | false =>
    have h0 := md_ci_r hf
    rw [h0] at hp
    refine br_t rfl ?_
    refine loop_0 (fun n i (_ : Unit) => wY_circuit_13 post (nI s) V C W F R n (nI i)) (fun i _ => md_all (md_raP U s) i = true) 8 () rfl (fun n _ ha => br_t md_le8 (by rw [md_bI_t (b := md_ra U s) ha] at hp; exact hp)) (fun n i _ hi ha k => ?_)
    refine br_f (md_nle8 hi) ?_
    rw [md_shr hs hi]
    by_cases hb : md_bit s i = 1
    · have hr := md_rest256 hs hi
      refine br_t (md_n11.mpr hb) ?_
      rw [md_cmp s hs i hi hb]
      refine ⟨md_in256 hr, ?_⟩
      rw [md_cl256 hr, hF _ hr]
      cases hg : md_fr U (s ^^^ 2 ^ i) with
      | false =>
        have h1 : md_ra U s = false := md_all_no hi (md_raP_f hb hg)
        rw [md_bI_f h1] at hp
        exact br_t rfl hp
      | true =>
        refine br_f (by decide) (nm_r (nI_1 i) (k () ?_))
        exact md_all_t ha (md_raP_t hg)
    · refine br_f (fun z => hb (md_n11.mp z)) (nm_r (nI_1 i) (k () ?_))
      exact md_all_t ha (md_raP_n hb)
end
