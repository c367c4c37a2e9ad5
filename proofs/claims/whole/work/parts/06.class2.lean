section
variable {V C W Q U : Nat → Int32} {post : Int32 → Prop} {s : Nat}
theorem xa_base (hs : s < 256) (hq : ∀ t, t < 256 → Q t = nI (md_R U t)) (hp : post (md_bI (md_ba U s))) : wpX_isBase post (V, C, W, Q) (nI s) := by
  unfold wpX_isBase
  dsimp only
  refine xa_ind (U := U) hs (hq s hs) ?_
  cases hf : md_fr U s with
  | false =>
    have h0 := md_ba_f hf
    rw [md_bI_f h0] at hp
    exact br_t rfl hp
  | true =>
    refine br_f (by decide) ⟨md_in256 hs, ?_⟩
    rw [md_cl256 hs, hq s hs, hq 255 (by decide), (md_fr_R hs).mp hf]
    by_cases h : md_sz s = md_R U 255
    · have h0 := md_ba_t hf h
      rw [md_bI_t h0] at hp
      exact br_t (by rw [h]) hp
    · have h0 := md_ba_n h
      rw [md_bI_f h0] at hp
      exact br_f (fun z => h ((md_eq_n (md_sz8 s) (md_R8 U 255)).mp z)) hp
theorem xa_circ (hs : s < 256) (hq : ∀ t, t < 256 → Q t = nI (md_R U t)) (hp : post (md_bI (md_ci U s))) : wpX_isCircuit post (V, C, W, Q) (nI s) := by
  unfold wpX_isCircuit
  dsimp only
  refine xa_ind (U := U) hs (hq s hs) ?_
  cases hf : md_fr U s with
  | true =>
    have h0 := md_ci_f hf
    rw [md_bI_f h0] at hp
    exact br_f (by decide) hp
  | false =>
    have h0 := md_ci_r hf
    rw [h0] at hp
    refine br_t rfl (xa_rai (U := U) hs (fun t ht => hq t (by omega)) ?_)
    cases hr : md_ra U s with
    | false => rw [hr] at hp; exact br_t rfl hp
    | true => rw [hr] at hp; exact br_f (by decide) hp
theorem xa_col (hs : s < 256) (hp : post (md_bI (md_dc C s))) : wpX_hasDifferentColours post (V, C, W, Q) (nI s) := by
  refine loop_0 (fun n i a => wX_hasDifferentColours_4 post (nI s) V C W Q n a (nI i)) (fun i a => a = md_sn C s i ∧ md_all (md_dcP C s) i = true) 8 0 ⟨rfl, rfl⟩ (fun n a (ha : a = md_sn C s 8 ∧ md_all (md_dcP C s) 8 = true) => br_t md_le8 (by rw [md_bI_t (b := md_dc C s) ha.2] at hp; exact hp)) (fun n i a hi (ha : a = md_sn C s i ∧ md_all (md_dcP C s) i = true) k => ?_)
  obtain ⟨ha, hall⟩ := ha
  refine br_f (md_nle8 hi) (xa_has hs hi ?_)
  by_cases hb : md_bit s i = 1
  · refine br_f (fun z => md_n01.mp z hb) ⟨md_in8 hi, ?_⟩
    rw [md_cl8 hi]
    refine nm_e ?_
    rw [ha]
    by_cases h : (md_sn C s i &&& ((1 : Int32) <<< (C i &&& 31))) = 0
    · refine br_t h (nm_r (e' := md_sn C s (i + 1)) (if_pos hb).symm (nm_r (nI_1 i) (k _ ⟨rfl, ?_⟩)))
      exact md_all_t hall (md_dcP_t (fun z => z.2 h))
    · have h0 : md_dc C s = false := md_all_no hi (md_dcP_f hb h)
      rw [md_bI_f h0] at hp
      exact br_f h hp
  · refine br_t (md_n01.mpr hb) (nm_r (nI_1 i) (k _ ⟨?_, ?_⟩))
    · rw [ha]
      exact (if_neg hb).symm
    · exact md_all_t hall (md_dcP_t (fun z => hb z.1))
theorem xa_sum (hs : s < 256) (hp : post (md_sw W s 8)) : wpX_sumOfWeights post (V, C, W, Q) (nI s) := by
  refine loop_0 (fun n i a => wX_sumOfWeights_4 post (nI s) V C W Q n a (nI i)) (fun i a => a = md_sw W s i) 8 0 rfl (fun n a (ha : a = md_sw W s 8) => br_t md_le8 (by rw [ha]; exact hp)) (fun n i a hi (ha : a = md_sw W s i) k => ?_)
  refine br_f (md_nle8 hi) (xa_has hs hi ?_)
  by_cases hb : md_bit s i = 1
  · refine br_f (fun z => md_n01.mp z hb) ⟨md_in8 hi, nm_r (e' := md_sw W s (i + 1)) ?_ (nm_r (nI_1 i) (k _ rfl))⟩
    rw [ha, md_cl8 hi]
    exact (if_pos hb).symm
  · refine br_t (md_n01.mpr hb) (nm_r (nI_1 i) (k _ ?_))
    rw [ha]
    exact (if_neg hb).symm
theorem xa_gu (hs : s < 256) (hq : ∀ t, t < 256 → Q t = nI (md_R U t)) (hp : post (nI (md_G U s))) : wpX_greatestUnionWith post (V, C, W, Q) (nI s) := by
  refine loop_0 (fun n i a => wX_greatestUnionWith_4 post (nI s) V C W Q n a (nI i)) (fun i a => a = nI (md_mx 0 (md_fr U) (md_uv s) i)) 256 0 rfl (fun n a (ha : a = nI (md_mx 0 (md_fr U) (md_uv s) 256)) => br_t md_le256 (by rw [ha]; exact hp)) (fun n i a hi (ha : a = nI (md_mx 0 (md_fr U) (md_uv s) i)) k => ?_)
  have hm : md_mx 0 (md_fr U) (md_uv s) i ≤ 8 := md_mx8 (v := md_uv s) (fun b => md_sz8 (s ||| b)) i
  have ho : s ||| i < 256 := md_or256 hs hi
  refine br_f (md_nle256 hi) ?_
  rw [md_or]
  refine xa_size ho ?_
  rw [ha]
  by_cases h : md_uv s i ≤ md_mx 0 (md_fr U) (md_uv s) i
  · refine br_t ((md_le_n (md_sz8 _) hm).mpr h) (nm_r (nI_1 i) (k _ ?_))
    exact congrArg nI (md_mx_n (v := fun b => md_sz (s ||| b)) h).symm
  · refine br_f (fun z => h ((md_le_n (md_sz8 _) hm).mp z)) (xa_ind (U := U) hi (hq i hi) ?_)
    cases hf : md_fr U i with
    | false =>
      refine br_t rfl (nm_r (nI_1 i) (k _ ?_))
      exact congrArg nI (md_mx_f hf).symm
    | true =>
      refine br_f (by decide) (nm_r (nI_1 i) (k _ ?_))
      exact congrArg nI (md_mx_t (v := fun b => md_sz (s ||| b)) hf (Nat.lt_of_not_le h)).symm
end
section
variable {V C W Q : Nat → Int32} {post : Int32 → Prop}
theorem xa_rank {p : Int32} {j : Nat} (hq : ∀ t, t < 256 → Q t = nI (md_R V t)) (hj : j < 256) (e : p &&& 255 = nI j) (hp : post (nI (md_R V j))) : wpX_rank post (V, C, W, Q) p := by
  unfold wpX_rank
  dsimp only
  rw [e, md_cl256 hj, hq j hj]
  exact ⟨md_in256 hj, hp⟩
theorem xa_clo {p : Int32} {j : Nat} (hq : ∀ t, t < 256 → Q t = nI (md_R V t)) (hj : j < 256) (e : p &&& 255 = nI j) (hp : post (md_cl V j 8)) : wpX_closure post (V, C, W, Q) p := by
  unfold wpX_closure
  dsimp only
  refine nm_r e ?_
  refine loop_0 (fun n i a => wX_closure_11 post (nI j) V C W Q n a (nI i)) (fun i a => a = md_cl V j i) 8 0 rfl (fun n a (ha : a = md_cl V j 8) => br_t md_le8 (by rw [ha]; exact hp)) (fun n i a hi (ha : a = md_cl V j i) k => ?_)
  have ho := md_or256 hj (md_p256 i hi)
  refine br_f (md_nle8 hi) (nm_r (md_shl i hi) ?_)
  rw [md_or]
  refine ⟨md_in256 ho, md_in256 hj, ?_⟩
  rw [md_cl256 ho, md_cl256 hj, hq _ ho, hq _ hj]
  by_cases h : md_R V (j ||| 2 ^ i) = md_R V j
  · refine br_t (by rw [h]) (nm_r (e' := md_cl V j (i + 1)) ?_ (nm_r (nI_1 i) (k _ rfl)))
    rw [ha]
    exact (if_pos h).symm
  · refine br_f (fun z => h ((md_eq_n (md_R8 V _) (md_R8 V _)).mp z)) (nm_r (nI_1 i) (k _ ?_))
    rw [ha]
    exact (if_neg h).symm
theorem xa_bases (hq : ∀ t, t < 256 → Q t = nI (md_R V t)) (hp : post (md_ct (md_ba V) 256)) : wpX_bases post (V, C, W, Q) := by
  refine loop_0 (fun n i a => wX_bases_4 post V C W Q n a (nI i)) (fun i a => a = md_ct (md_ba V) i) 256 0 rfl (fun n a (ha : a = md_ct (md_ba V) 256) => br_t md_le256 (by rw [ha]; exact hp)) (fun n i a hi (ha : a = md_ct (md_ba V) i) k => ?_)
  refine br_f (md_nle256 hi) (xa_base (U := V) hi hq ?_)
  cases hb : md_ba V i with
  | false => exact br_t rfl (nm_r (nI_1 i) (k _ (by rw [ha]; exact (md_ct_f hb).symm)))
  | true => exact br_f (by decide) (nm_r (e' := md_ct (md_ba V) (i + 1)) (by rw [ha]; exact (md_ct_t hb).symm) (nm_r (nI_1 i) (k _ rfl)))
theorem xa_circs (hq : ∀ t, t < 256 → Q t = nI (md_R V t)) (hp : post (md_ct (md_ci V) 256)) : wpX_circuits post (V, C, W, Q) := by
  refine loop_0 (fun n i a => wX_circuits_4 post V C W Q n a (nI i)) (fun i a => a = md_ct (md_ci V) i) 256 0 rfl (fun n a (ha : a = md_ct (md_ci V) 256) => br_t md_le256 (by rw [ha]; exact hp)) (fun n i a hi (ha : a = md_ct (md_ci V) i) k => ?_)
  refine br_f (md_nle256 hi) (xa_circ (U := V) hi hq ?_)
  cases hb : md_ci V i with
  | false => exact br_t rfl (nm_r (nI_1 i) (k _ (by rw [ha]; exact (md_ct_f hb).symm)))
  | true => exact br_f (by decide) (nm_r (e' := md_ct (md_ci V) (i + 1)) (by rw [ha]; exact (md_ct_t hb).symm) (nm_r (nI_1 i) (k _ rfl)))
theorem xa_poly {x y : Int32} (hq : ∀ t, t < 256 → Q t = nI (md_R V t)) (hp : post (md_po V x y 256)) : wpX_polynomial post (V, C, W, Q) x y := by
  refine loop_0 (fun n i a => wX_polynomial_5 post x y V C W Q n a (nI i)) (fun i a => a = md_po V x y i) 256 0 rfl (fun n a (ha : a = md_po V x y 256) => br_t md_le256 (by rw [ha]; exact hp)) (fun n i a hi (ha : a = md_po V x y i) k => ?_)
  have h1 := md_R255 V hi
  have h2 := md_R8 V 255
  have h3 := md_sz8 i
  refine br_f (md_nle256 hi) ⟨md_in256 hi, ?_⟩
  rw [md_cl256 hi, hq 255 (by decide), hq i hi, pk_sub h1]
  refine nm_e (xa_size hi ⟨md_in256 hi, ?_⟩)
  rw [pk_sub (md_R_sz V i)]
  refine nm_e (xa_pow (by omega) (xa_pow (by omega) (nm_r (e' := md_po V x y (i + 1)) ?_ (nm_r (nI_1 i) (k _ rfl)))))
  rw [ha, md_po_s]
theorem xa_rain (hq : ∀ t, t < 256 → Q t = nI (md_R V t)) (hp : post (nI (md_rb V C))) : wpX_rainbow post (V, C, W, Q) := by
  refine loop_0 (fun n i a => wX_rainbow_4 post V C W Q n a (nI i)) (fun i a => a = nI (md_mx 0 (md_rc V C) md_sz i)) 256 0 rfl (fun n a (ha : a = nI (md_mx 0 (md_rc V C) md_sz 256)) => br_t md_le256 (by rw [ha]; exact hp)) (fun n i a hi (ha : a = nI (md_mx 0 (md_rc V C) md_sz i)) k => ?_)
  have hm : md_mx 0 (md_rc V C) md_sz i ≤ 8 := md_mx8 md_sz8 i
  refine br_f (md_nle256 hi) (xa_size hi ?_)
  rw [ha]
  by_cases h : md_sz i ≤ md_mx 0 (md_rc V C) md_sz i
  · exact br_t ((md_le_n (md_sz8 i) hm).mpr h) (nm_r (nI_1 i) (k _ (congrArg nI (md_mx_n h).symm)))
  · refine br_f (fun z => h ((md_le_n (md_sz8 i) hm).mp z)) (xa_ind (U := V) hi (hq i hi) ?_)
    cases hf : md_fr V i with
    | false => exact br_t rfl (nm_r (nI_1 i) (k _ (congrArg nI (md_mx_f (md_rc_f1 hf)).symm)))
    | true =>
      refine br_f (by decide) (xa_col hi ?_)
      cases hd : md_dc C i with
      | false => exact br_t rfl (nm_r (nI_1 i) (k _ (congrArg nI (md_mx_f (md_rc_f2 hd)).symm)))
      | true => exact br_f (by decide) ((nm_r (nI_1 i) (k _ (congrArg nI (md_mx_t (md_rc_t hf hd) (Nat.lt_of_not_le h)).symm))))
theorem xa_heavy (hq : ∀ t, t < 256 → Q t = nI (md_R V t)) (hp : post (md_he V W)) : wpX_heaviest post (V, C, W, Q) := by
  refine loop_0 (fun n i a => wX_heaviest_6 post V C W Q n a (nI i)) (fun i a => a = md_hv (-801) (md_ba V) (fun s => md_sw W s 8) i) 256 (-801) rfl (fun n a (ha : a = md_hv (-801) (md_ba V) (fun s => md_sw W s 8) 256) => br_t md_le256 (by rw [ha]; exact hp)) (fun n i a hi (ha : a = md_hv (-801) (md_ba V) (fun s => md_sw W s 8) i) k => ?_)
  refine br_f (md_nle256 hi) (xa_base (U := V) hi hq ?_)
  cases hb : md_ba V i with
  | false => exact br_t rfl (nm_r (nI_1 i) (k _ (by rw [ha]; exact (md_hv_f hb).symm)))
  | true =>
    refine br_f (by decide) (xa_sum hi ?_)
    rw [ha]
    by_cases h : md_sw W i 8 ≤ md_hv (-801) (md_ba V) (fun s => md_sw W s 8) i
    · exact br_t h (nm_r (nI_1 i) (k _ (md_hv_n (w := fun s => md_sw W s 8) (Int32.not_lt.mpr h)).symm))
    · exact br_f h ((nm_r (nI_1 i) (k _ (md_hv_t (w := fun s => md_sw W s 8) hb (Int32.not_le.mp h)).symm)))
theorem xa_union (hq : ∀ t, t < 256 → Q t = nI (md_R V t)) (hp : post (nI (md_un V 256))) : wpX_union post (V, C, W, Q) := by
  rw [md_un_eq] at hp
  refine loop_0 (fun n i a => wX_union_4 post V C W Q n a (nI i)) (fun i a => a = nI (md_mx 0 (md_fr V) (md_G V) i)) 256 0 rfl (fun n a (ha : a = nI (md_mx 0 (md_fr V) (md_G V) 256)) => br_t md_le256 (by rw [ha]; exact hp)) (fun n i a hi (ha : a = nI (md_mx 0 (md_fr V) (md_G V) i)) k => ?_)
  have hm : md_mx 0 (md_fr V) (md_G V) i ≤ 8 := md_mx8 (md_G8 V) i
  refine br_f (md_nle256 hi) (xa_ind (U := V) hi (hq i hi) ?_)
  cases hf : md_fr V i with
  | false => exact br_t rfl (nm_r (nI_1 i) (k _ (by rw [ha]; exact congrArg nI (md_mx_f hf).symm)))
  | true =>
    refine br_f (by decide) (xa_gu (U := V) hi hq ?_)
    rw [ha]
    by_cases h : md_G V i ≤ md_mx 0 (md_fr V) (md_G V) i
    · exact br_t ((md_le_n (md_G8 V i) hm).mpr h) (nm_r (nI_1 i) (k _ (congrArg nI (md_mx_n h).symm)))
    · exact br_f (fun z => h ((md_le_n (md_G8 V i) hm).mp z)) ((nm_r (nI_1 i) (k _ (congrArg nI (md_mx_t hf (Nat.lt_of_not_le h)).symm))))
end
