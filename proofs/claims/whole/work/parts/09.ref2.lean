section
variable {V C W F R : Nat → Int32} {post : Int32 → SY → Prop}
theorem ya_rank {p : Int32} {j : Nat} (hj : j < 256) (e : p &&& 255 = nI j) (hp : ∀ F' R' : Nat → Int32, post (nI (md_R V j)) (V, C, W, F', R')) : wpY_rank post (V, C, W, F, R) p := by
  unfold wpY_rank
  dsimp only
  refine ya_work (fun F' R' hF hR => ?_)
  dsimp only
  rw [e, md_cl256 hj, hR j hj]
  exact ⟨md_in256 hj, hp F' R'⟩
theorem ya_clo {p : Int32} {j : Nat} (hj : j < 256) (e : p &&& 255 = nI j) (hp : ∀ F' R' : Nat → Int32, post (md_cl V j 8) (V, C, W, F', R')) : wpY_closure post (V, C, W, F, R) p := by
  unfold wpY_closure
  dsimp only
  refine ya_work (fun F' R' hF hR => ?_)
  dsimp only
  refine nm_r e ?_
  refine loop_0 (fun n i a => wY_closure_15 post (nI j) V C W F' R' n a (nI i)) (fun i a => a = md_cl V j i) 8 0 rfl (fun n a (ha : a = md_cl V j 8) => br_t md_le8 (by rw [ha]; exact hp F' R')) (fun n i a hi (ha : a = md_cl V j i) k => ?_)
  have ho := md_or256 hj (md_p256 i hi)
  refine br_f (md_nle8 hi) ?_
  rw [md_shl i hi, md_or]
  refine ⟨md_in256 ho, md_in256 hj, ?_⟩
  rw [md_cl256 ho, md_cl256 hj, hR _ ho, hR _ hj]
  by_cases h : md_R V (j ||| 2 ^ i) = md_R V j
  · refine br_t (by rw [h]) (nm_r (e' := md_cl V j (i + 1)) ?_ (nm_r (nI_1 i) (k _ rfl)))
    rw [ha]
    exact (if_pos h).symm
  · refine br_f (fun z => h ((md_eq_n (md_R8 V _) (md_R8 V _)).mp z)) (nm_r (nI_1 i) (k _ ?_))
    rw [ha]
    exact (if_neg h).symm
theorem ya_bases (hp : ∀ F' R' : Nat → Int32, post (md_ct (md_ba V) 256) (V, C, W, F', R')) : wpY_bases post (V, C, W, F, R) := by
  unfold wpY_bases
  dsimp only
  refine ya_work (fun F' R' hF hR => ?_)
  dsimp only
  refine loop_0 (fun n i a => wY_bases_8 post V C W F' R' n a (nI i)) (fun i a => a = md_ct (md_ba V) i) 256 0 rfl (fun n a (ha : a = md_ct (md_ba V) 256) => br_t md_le256 (by rw [ha]; exact hp F' R')) (fun n i a hi (ha : a = md_ct (md_ba V) i) k => ?_)
  refine br_f (md_nle256 hi) (ya_base (U := V) hi hF hR ?_)
  cases hb : md_ba V i with
  | false => exact br_t rfl (nm_r (nI_1 i) (k _ (by rw [ha]; exact (md_ct_f hb).symm)))
  | true => exact br_f (by decide) (nm_r (e' := md_ct (md_ba V) (i + 1)) (by rw [ha]; exact (md_ct_t hb).symm) (nm_r (nI_1 i) (k _ rfl)))
theorem ya_circs (hp : ∀ F' R' : Nat → Int32, post (md_ct (md_ci V) 256) (V, C, W, F', R')) : wpY_circuits post (V, C, W, F, R) := by
  unfold wpY_circuits
  dsimp only
  refine ya_work (fun F' R' hF hR => ?_)
  dsimp only
  refine loop_0 (fun n i a => wY_circuits_8 post V C W F' R' n a (nI i)) (fun i a => a = md_ct (md_ci V) i) 256 0 rfl (fun n a (ha : a = md_ct (md_ci V) 256) => br_t md_le256 (by rw [ha]; exact hp F' R')) (fun n i a hi (ha : a = md_ct (md_ci V) i) k => ?_)
  refine br_f (md_nle256 hi) (ya_cir (U := V) hi hF ?_)
  cases hb : md_ci V i with
  | false => exact br_t rfl (nm_r (nI_1 i) (k _ (by rw [ha]; exact (md_ct_f hb).symm)))
  | true => exact br_f (by decide) (nm_r (e' := md_ct (md_ci V) (i + 1)) (by rw [ha]; exact (md_ct_t hb).symm) (nm_r (nI_1 i) (k _ rfl)))
theorem ya_poly {x y : Int32} (hp : ∀ F' R' : Nat → Int32, post (md_po V x y 256) (V, C, W, F', R')) : wpY_polynomial post (V, C, W, F, R) x y := by
  unfold wpY_polynomial
  dsimp only
  refine ya_work (fun F' R' hF hR => ?_)
  dsimp only
  refine loop_0 (fun n i a => wY_polynomial_9 post x y V C W F' R' n a (nI i)) (fun i a => a = md_po V x y i) 256 0 rfl (fun n a (ha : a = md_po V x y 256) => br_t md_le256 (by rw [ha]; exact hp F' R')) (fun n i a hi (ha : a = md_po V x y i) k => ?_)
  have h1 := md_R255 V hi
  have h2 := md_R8 V 255
  have h3 := md_sz8 i
  refine br_f (md_nle256 hi) (ya_ones hi ⟨md_in256 hi, ?_⟩)
  rw [md_cl256 hi, hR 255 (by decide), hR i hi, pk_sub h1, pk_sub (md_R_sz V i)]
  refine ya_pow (by omega) ⟨md_in256 hi, ya_pow (by omega) (nm_r (e' := md_po V x y (i + 1)) ?_ (nm_r (nI_1 i) (k _ rfl)))⟩
  rw [ha, md_po_s]
theorem ya_rain (hC : ∀ e, e < 8 → ∃ c, c < 8 ∧ C e = nI c) (hp : ∀ F' R' : Nat → Int32, post (nI (md_rb V C)) (V, C, W, F', R')) : wpY_rainbow post (V, C, W, F, R) := by
  unfold wpY_rainbow
  dsimp only
  refine ya_work (fun F' R' hF hR => ?_)
  dsimp only
  refine loop_0 (fun n i a => wY_rainbow_8 post V C W F' R' n a (nI i)) (fun i a => a = nI (md_mx 0 (md_rc V C) md_sz i)) 256 0 rfl (fun n a (ha : a = nI (md_mx 0 (md_rc V C) md_sz 256)) => br_t md_le256 (by rw [ha]; exact hp F' R')) (fun n i a hi (ha : a = nI (md_mx 0 (md_rc V C) md_sz i)) k => ?_)
  have hm : md_mx 0 (md_rc V C) md_sz i ≤ 8 := md_mx8 md_sz8 i
  refine br_f (md_nle256 hi) (ya_ones hi ⟨md_in256 hi, ?_⟩)
  rw [md_cl256 hi, hF i hi]
  cases hf : md_fr V i with
  | false => exact br_t rfl (nm_r (nI_1 i) (k _ (by rw [ha]; exact congrArg nI (md_mx_f (md_rc_f1 hf)).symm)))
  | true =>
    refine br_f (by decide) (ya_col hC hi ?_)
    cases hd : md_dc C i with
    | false => exact br_t rfl (nm_r (nI_1 i) (k _ (by rw [ha]; exact congrArg nI (md_mx_f (md_rc_f2 hd)).symm)))
    | true =>
      refine br_f (by decide) ?_
      rw [ha]
      by_cases h : md_sz i ≤ md_mx 0 (md_rc V C) md_sz i
      · exact br_t ((md_le_n (md_sz8 i) hm).mpr h) (nm_r (nI_1 i) (k _ (congrArg nI (md_mx_n h).symm)))
      · exact br_f (fun z => h ((md_le_n (md_sz8 i) hm).mp z)) ((nm_r (nI_1 i) (k _ (congrArg nI (md_mx_t (md_rc_t hf hd) (Nat.lt_of_not_le h)).symm))))
theorem ya_heavy (hp : ∀ F' R' : Nat → Int32, post (md_hv (-1000) (md_ba V) (fun s => md_sw W s 8) 256) (V, C, W, F', R')) : wpY_heaviest post (V, C, W, F, R) := by
  unfold wpY_heaviest
  dsimp only
  refine ya_work (fun F' R' hF hR => ?_)
  dsimp only
  refine loop_0 (fun n i a => wY_heaviest_10 post V C W F' R' n a (nI i)) (fun i a => a = md_hv (-1000) (md_ba V) (fun s => md_sw W s 8) i) 256 (-1000) rfl (fun n a (ha : a = md_hv (-1000) (md_ba V) (fun s => md_sw W s 8) 256) => br_t md_le256 (by rw [ha]; exact hp F' R')) (fun n i a hi (ha : a = md_hv (-1000) (md_ba V) (fun s => md_sw W s 8) i) k => ?_)
  refine br_f (md_nle256 hi) (ya_wt hi (ya_base (U := V) hi hF hR ?_))
  cases hb : md_ba V i with
  | false => exact br_t rfl (nm_r (nI_1 i) (k _ (by rw [ha]; exact (md_hv_f hb).symm)))
  | true =>
    refine br_f (by decide) ?_
    rw [ha]
    by_cases h : md_sw W i 8 ≤ md_hv (-1000) (md_ba V) (fun s => md_sw W s 8) i
    · exact br_t h (nm_r (nI_1 i) (k _ (md_hv_n (w := fun s => md_sw W s 8) (Int32.not_lt.mpr h)).symm))
    · exact br_f h ((nm_r (nI_1 i) (k _ (md_hv_t (w := fun s => md_sw W s 8) hb (Int32.not_le.mp h)).symm)))
theorem ya_uI {J : Int32 → Int32 → Prop} {a m : Nat} (ha : a < 256) (hm0 : m ≤ 8) (hF : ∀ t, t < 256 → F t = md_bI (md_fr V t)) (hJ : J (nI (md_mx m (md_ub V a) (md_uv a) 256)) (nI (a + 1))) : ∃ n, wY_union_17 post J (nI a) V C W F R n (nI m) 0 := by
  refine loop_0 (fun n i x => wY_union_17 post J (nI a) V C W F R n x (nI i)) (fun i x => x = nI (md_mx m (md_ub V a) (md_uv a) i)) 256 (nI m) rfl (fun n x hx => br_t md_le256 (nm_r (nI_1 a) (by rw [hx]; exact hJ))) (fun n i x hi hx k => ?_)
  have hm : md_mx m (md_ub V a) (md_uv a) i ≤ 8 := md_mx_le hm0 i (fun b _ _ => md_sz8 (a ||| b))
  have ho := md_or256 ha hi
  refine br_f (md_nle256 hi) ⟨md_in256 ha, ?_⟩
  rw [md_cl256 ha, hF a ha]
  cases hf : md_fr V a with
  | false =>
    have h0 : md_ub V a i = false := by unfold md_ub; rw [hf, Bool.false_and]
    exact br_t rfl (nm_r (nI_1 i) (k _ (by rw [hx]; exact congrArg nI (md_mx_f h0).symm)))
  | true =>
    refine br_f (by decide) ⟨md_in256 hi, ?_⟩
    rw [md_cl256 hi, hF i hi]
    cases hg : md_fr V i with
    | false =>
      have h0 : md_ub V a i = false := by unfold md_ub; rw [hg, Bool.and_false]
      exact br_t rfl (nm_r (nI_1 i) (k _ (by rw [hx]; exact congrArg nI (md_mx_f h0).symm)))
    | true =>
      have h0 : md_ub V a i = true := by unfold md_ub; rw [hf, hg] <;> rfl
      refine br_f (by decide) ?_
      rw [md_or]
      refine ya_ones ho ?_
      rw [hx]
      by_cases h : md_uv a i ≤ md_mx m (md_ub V a) (md_uv a) i
      · exact br_t ((md_le_n (md_sz8 _) hm).mpr h) (nm_r (nI_1 i) (k _ (congrArg nI (md_mx_n h).symm)))
      · exact br_f (fun z => h ((md_le_n (md_sz8 _) hm).mp z)) (ya_ones ho ((nm_r (nI_1 i) (k _ (congrArg nI (md_mx_t h0 (Nat.lt_of_not_le h)).symm)))))
theorem ya_union (hp : ∀ F' R' : Nat → Int32, post (nI (md_un V 256)) (V, C, W, F', R')) : wpY_union post (V, C, W, F, R) := by
  unfold wpY_union
  dsimp only
  refine ya_work (fun F' R' hF hR => ?_)
  dsimp only
  refine loop_0 (fun n i a => wY_union_8 post V C W F' R' n a (nI i)) (fun i a => a = nI (md_un V i)) 256 0 rfl (fun n a (ha : a = nI (md_un V 256)) => br_t md_le256 (by rw [ha]; exact hp F' R')) (fun n i a hi (ha : a = nI (md_un V i)) k => ?_)
  refine br_f (md_nle256 hi) ?_
  rw [ha]
  have hu : md_un V i ≤ 8 := by rw [md_un_eq]; exact md_mx8 (md_G8 V) i
  exact ya_uI hi hu hF (k _ rfl)
end
