section
variable {V C W F R : Nat → Int32}
theorem ya_wE {post : SY → Prop} {J : Int32 → (Nat → Int32) → (Nat → Int32) → (Nat → Int32) → (Nat → Int32) → (Nat → Int32) → Prop} {i : Nat} (hi : i < 256) (hF : ∀ t, t < 256 → F t = md_bI (md_fr V t)) (h0 : R i = 0) (hR : ∀ t, t < i → R t = nI (md_R V t))
    (hJ : ∀ R' : Nat → Int32, (∀ t, t < i + 1 → R' t = nI (md_R V t)) → J (nI (i + 1)) V C W F R') : ∃ n, wY_work_92 post J (nI i) n 0 V C W F R := by
  refine loop_0 (fun n p r => wY_work_92 post J (nI i) n (nI p) V C W F r) (fun p r => (∀ t, t < i → r t = nI (md_R V t)) ∧ r i = nI (md_mx 0 (md_Rc V i) md_sz p)) 256 R ⟨hR, h0⟩ ?_ ?_
  · intro n r hr
    refine br_t md_le256 (nm_r (nI_1 i) (hJ r (fun t ht => ?_)))
    by_cases q : t = i
    · rw [q]
      exact hr.2
    · exact hr.1 t (by omega)
  · intro n p r hp hr k
    have hm : md_mx 0 (md_Rc V i) md_sz p ≤ 8 := md_mx8 md_sz8 p
    have hcont : md_mx 0 (md_Rc V i) md_sz (p + 1) = md_mx 0 (md_Rc V i) md_sz p → wY_work_92 post J (nI i) n (nI (p + 1)) V C W F r := fun e => k r ⟨hr.1, by rw [e]; exact hr.2⟩
    refine br_f (md_nle256 hp) (ya_ones hp ⟨md_in256 hp, ?_⟩)
    rw [md_cl256 hp, hF p hp]
    cases hf : md_fr V p with
    | false =>
      refine br_t rfl (nm_r (nI_1 p) (hcont (md_mx_f ?_)))
      exact Bool.eq_false_iff.mpr (fun z => by have := (md_Rc_iff.mp z).1; rw [hf] at this; exact absurd this (by decide))
    | true =>
      refine br_f (by decide) ?_
      rw [nx_and]
      by_cases hsub : i &&& p = p
      · refine br_t (by rw [hsub]) ⟨md_in256 hi, ?_⟩
        rw [md_cl256 hi, hr.2]
        by_cases h : md_sz p ≤ md_mx 0 (md_Rc V i) md_sz p
        · exact br_t ((md_le_n (md_sz8 p) hm).mpr h) (nm_r (nI_1 p) (hcont (md_mx_n h)))
        · refine br_f (fun z => h ((md_le_n (md_sz8 p) hm).mp z)) ⟨md_in256 hi, nm_e (nm_r (nI_1 p) (k _ ⟨fun t ht => ?_, ?_⟩))⟩
          · have hne : t ≠ i := by omega
            rw [pk_un hne]
            exact hr.1 t ht
          · rw [pk_us, md_mx_t (md_Rc_iff.mpr ⟨hf, hsub⟩) (Nat.lt_of_not_le h)]
      · refine br_f (fun z => hsub ((md_eq256 (md_and256 hi) hp).mp z)) (nm_r (nI_1 p) (hcont (md_mx_f ?_)))
        exact Bool.eq_false_iff.mpr (fun z => hsub (md_Rc_iff.mp z).2)
theorem ya_wD {post : SY → Prop} (hF : ∀ t, t < 256 → F t = md_bI (md_fr V t)) (hp : ∀ R' : Nat → Int32, (∀ t, t < 256 → R' t = nI (md_R V t)) → post (V, C, W, F, R')) : ∃ n, wY_work_76 post n 0 V C W F R := by
  refine loop_0 (fun n i r => wY_work_76 post n (nI i) V C W F r) (fun i r => ∀ t, t < i → r t = nI (md_R V t)) 256 R (fun t ht => absurd ht (Nat.not_lt_zero t)) (fun n r hr => br_t md_le256 (hp r hr)) (fun n i r hi hr k => ?_)
  refine br_f (md_nle256 hi) ⟨md_in256 hi, ?_⟩
  rw [md_cl256 hi]
  refine nm_e (ya_wE hi hF pk_us (fun t ht => ?_) (fun R' hR' => k R' hR'))
  have hne : t ≠ i := by omega
  rw [pk_un hne]
  exact hr t ht
theorem ya_wC {post : SY → Prop} {J : Int32 → (Nat → Int32) → (Nat → Int32) → (Nat → Int32) → (Nat → Int32) → (Nat → Int32) → Prop} {i : Nat} (hi : i < 256) (h1 : 1 ≤ i) (hx : md_X V i = 0) (hF : ∀ t, t < 256 → F t = md_bI (md_fb V t i))
    (hJ : ∀ F' : Nat → Int32, (∀ t, t < 256 → F' t = md_bI (md_fb V t (i + 1))) → J (nI (i + 1)) V C W F' R) : ∃ n, wY_work_41 post J (nI i) n 0 V C W F R := by
  refine loop_0 (fun n p f => wY_work_41 post J (nI i) n (nI p) V C W f R) (fun p f => (∀ t, t < p → f t = md_bI (md_fb V t (i + 1))) ∧ ∀ t, p ≤ t → t < 256 → f t = md_bI (md_fb V t i)) 256 F ⟨fun t ht => absurd ht (Nat.not_lt_zero t), fun t _ ht => hF t ht⟩ ?_ ?_
  · intro n f hf
    exact br_t md_le256 (nm_r (nI_1 i) (hJ f hf.1))
  · intro n p f hp hf k
    refine br_f (md_nle256 hp) ?_
    rw [nx_and]
    by_cases hsub : p &&& i = i
    · refine br_t (by rw [hsub]) ⟨md_in256 hp, ?_⟩
      rw [md_cl256 hp, md_vb0]
      refine nm_e (nm_r (nI_1 p) (k _ ⟨fun t ht => ?_, fun t h2 h3 => ?_⟩))
      · by_cases q : t = p
        · rw [q, pk_us, md_fb_z h1 hx hsub] <;> rfl
        · rw [pk_un q]
          exact hf.1 t (by omega)
      · have hne : t ≠ p := by omega
        rw [pk_un hne]
        exact hf.2 t (by omega) h3
    · refine br_f (fun z => hsub ((md_eq256 (md_and256 hp) hi).mp z)) (nm_r (nI_1 p) (k _ ⟨fun t ht => ?_, fun t h2 h3 => hf.2 t (by omega) h3⟩))
      by_cases q : t = p
      · rw [q, md_fb_k (fun z => hsub z.2.2)]
        exact hf.2 p (Nat.le_refl p) hp
      · exact hf.1 t (by omega)
theorem ya_wB {post : SY → Prop} (hF : ∀ t, t < 256 → F t = 1) (hp : ∀ F' R' : Nat → Int32, (∀ t, t < 256 → F' t = md_bI (md_fr V t)) → (∀ t, t < 256 → R' t = nI (md_R V t)) → post (V, C, W, F', R')) : ∃ n, wY_work_24 post n 1 V C W F R := by
  refine pk_loop (fun n i f => wY_work_24 post n (nI i) V C W f R) (fun i f => 1 ≤ i ∧ ∀ t, t < 256 → f t = md_bI (md_fb V t i)) 256 1 F (by omega) ⟨Nat.le_refl 1, fun t ht => by rw [md_fb_1]; exact hF t ht⟩ (fun n f hf => br_t md_le256 (ya_wD hf.2 (fun R' hR' => hp f R' hf.2 hR'))) (fun n i f hi hf k => ?_)
  refine br_f (md_nle256 hi) (ya_sum hi ?_)
  by_cases hx : md_X V i = 0
  · exact br_t hx (ya_wC hi hf.1 hx hf.2 (fun F' hF' => k F' ⟨by omega, hF'⟩))
  · refine br_f hx (nm_r (nI_1 i) (k f ⟨by omega, fun t ht => ?_⟩))
    rw [md_fb_k (fun z => hx z.2.1)]
    exact hf.2 t ht
theorem ya_work {post : SY → Prop} (hp : ∀ F' R' : Nat → Int32, (∀ t, t < 256 → F' t = md_bI (md_fr V t)) → (∀ t, t < 256 → R' t = nI (md_R V t)) → post (V, C, W, F', R')) : wpY_work post (V, C, W, F, R) := by
  refine loop_0 (fun n i f => wY_work_2 post n (nI i) V C W f R) (fun i f => ∀ t, t < i → f t = 1) 256 F (fun t ht => absurd ht (Nat.not_lt_zero t)) (fun n f hf => br_t md_le256 (ya_wB hf hp)) (fun n i f hi hf k => ?_)
  refine br_f (md_nle256 hi) ⟨md_in256 hi, ?_⟩
  rw [md_cl256 hi, md_vb1]
  refine nm_e (nm_r (nI_1 i) (k _ (fun t ht => ?_)))
  by_cases q : t = i
  · rw [q]
    exact pk_us
  · rw [pk_un q]
    exact hf t (by omega)
end
