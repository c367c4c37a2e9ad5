/-- the same vectors, colours and weights; the class's table holds the rank of each set; colours below 8, weights from -100 to 100 -/
def i_Rel (k : Nat) (u : SX) (v : SY) : Prop :=
  ∃ V C W Q F R : Nat → Int32, u = (V, C, W, Q) ∧ v = (V, C, W, F, R) ∧ (∀ t, t < 256 → Q t = nI (md_R V t)) ∧ (∀ e, e < 8 → ∃ c, c < 8 ∧ C e = nI c) ∧ (∀ e, e < 8 → -100 ≤ (W e).toInt ∧ (W e).toInt ≤ 100)
theorem i_up {k : Nat} {u : SX} {v : SY} (h : i_Rel k u v) : i_Rel (k + 3) u v := h
def md_co : Nat → (Nat → Int32)
  | 0 => fun _ => 0
  | i + 1 => upd (md_co i) i (nI i)
theorem md_co_s (i : Nat) : md_co (i + 1) = upd (md_co i) i (nI i) := rfl
theorem md_co_at : ∀ n e : Nat, e < n → md_co n e = nI e := by
  intro n
  induction n with
  | zero => intro e he; omega
  | succ n ih =>
    intro e he
    rw [md_co_s]
    by_cases q : e = n
    · rw [q]
      exact pk_us
    · rw [pk_un q]
      exact ih e (by omega)
theorem xa_init {post : SX → Prop} (hp : post (fun _ => 0, md_co 8, fun _ => 0, fun _ => 0)) : wpX_init post := by
  refine loop_0 (fun n i c => wX_init_39 post n (nI i) (fun _ => 0) c (fun _ => 0) (fun _ => 0)) (fun i c => c = md_co i) 8 (fun _ => 0) rfl (fun n c (hc : c = md_co 8) => br_t md_le8 (by rw [hc]; exact hp)) (fun n i c hi (hc : c = md_co i) k => ?_)
  refine br_f (md_nle8 hi) ⟨md_in8 hi, nm_r (e' := md_co (i + 1)) ?_ (nm_r (nI_1 i) (k _ rfl))⟩
  rw [hc, md_cl8 hi, md_co_s]
theorem ya_init {post : SY → Prop} (hp : post (fun _ => 0, md_co 8, fun _ => 0, fun _ => 0, fun _ => 0)) : wpY_init post := by
  refine loop_0 (fun n i c => wY_init_48 post n (nI i) (fun _ => 0) c (fun _ => 0) (fun _ => 0) (fun _ => 0)) (fun i c => c = md_co i) 8 (fun _ => 0) rfl (fun n c (hc : c = md_co 8) => br_t md_le8 (by rw [hc]; exact hp)) (fun n i c hi (hc : c = md_co i) k => ?_)
  refine br_f (md_nle8 hi) ⟨md_in8 hi, nm_r (e' := md_co (i + 1)) ?_ (nm_r (nI_1 i) (k _ rfl))⟩
  rw [hc, md_cl8 hi, md_co_s]
theorem i_vc0 : wpX_init (fun u => wpY_init (fun v => i_Rel 0 u v)) := by
  refine xa_init (ya_init ⟨_, _, _, _, _, _, rfl, rfl, fun t _ => ?_, fun e he => ⟨e, he, md_co_at 8 e he⟩, fun e _ => ?_⟩)
  · rw [md_R0] <;> rfl
  · show -100 ≤ (0 : Int32).toInt ∧ (0 : Int32).toInt ≤ 100
    decide
theorem i_vc_vector {k : Nat} {u : SX} {v : SY} (I : i_Rel k u v) (hk : k + 3 ≤ 1536) (v1 : Int32) (v2 : Int32) : wpX_vector (fun u' => wpY_vector (fun v' => i_Rel (k + 3) u' v') v v1 v2) u v1 v2 := by
  obtain ⟨V, C, W, Q, F, R, rfl, rfl, hQ, hC, hW⟩ := I
  obtain ⟨j, hj, ej⟩ := md_ex7 v1
  have hin : vp_in (v1 &&& 7) 8 := by rw [ej]; exact md_in8 hj
  unfold wpX_vector
  dsimp only
  refine ⟨hin, nm_e (xa_upd (fun Q' hQ' => ?_))⟩
  dsimp only
  unfold wpY_vector
  dsimp only
  exact ⟨hin, nm_e ⟨_, _, _, _, _, _, rfl, rfl, hQ', hC, hW⟩⟩
theorem i_vc_colour {k : Nat} {u : SX} {v : SY} (I : i_Rel k u v) (hk : k + 3 ≤ 1536) (v1 : Int32) (v2 : Int32) : wpX_colour (fun u' => wpY_colour (fun v' => i_Rel (k + 3) u' v') v v1 v2) u v1 v2 := by
  obtain ⟨V, C, W, Q, F, R, rfl, rfl, hQ, hC, hW⟩ := I
  obtain ⟨j, hj, ej⟩ := md_ex7 v1
  obtain ⟨c, hc, ec⟩ := md_ex7 v2
  have hin : vp_in (v1 &&& 7) 8 := by rw [ej]; exact md_in8 hj
  unfold wpX_colour
  dsimp only
  refine ⟨hin, nm_e ?_⟩
  unfold wpY_colour
  dsimp only
  refine ⟨hin, nm_e ⟨_, _, _, _, _, _, rfl, rfl, hQ, fun e he => ?_, hW⟩⟩
  by_cases q : e = (v1 &&& 7).toNatClampNeg
  · refine ⟨c, hc, ?_⟩
    rw [q, pk_us]
    exact ec
  · rw [pk_un q]
    exact hC e he
theorem md_relw {k : Nat} {V C W Q F R : Nat → Int32} {x : Int32} {j : Nat} (hQ : ∀ t, t < 256 → Q t = nI (md_R V t)) (hC : ∀ e, e < 8 → ∃ c, c < 8 ∧ C e = nI c) (hW : ∀ e, e < 8 → -100 ≤ (W e).toInt ∧ (W e).toInt ≤ 100) (hx : -100 ≤ x.toInt ∧ x.toInt ≤ 100) : i_Rel k (V, C, upd W j x, Q) (V, C, upd W j x, F, R) := by
  refine ⟨_, _, _, _, _, _, rfl, rfl, hQ, hC, fun e he => ?_⟩
  by_cases q : e = j
  · rw [q, pk_us]
    exact hx
  · rw [pk_un q]
    exact hW e he
theorem xa_w20 {V C W Q : Nat → Int32} {post : SX → Prop} {p x : Int32} (hin : vp_in (p &&& 7) 8) (h : post (V, C, upd W (p &&& 7).toNatClampNeg x, Q)) : wX_weight_20 post p x V C W Q := by
  unfold wX_weight_20
  exact ⟨hin, nm_e h⟩
theorem i_vc_weight {k : Nat} {u : SX} {v : SY} (I : i_Rel k u v) (hk : k + 3 ≤ 1536) (v1 : Int32) (v2 : Int32) : wpX_weight (fun u' => wpY_weight (fun v' => i_Rel (k + 3) u' v') v v1 v2) u v1 v2 := by
  obtain ⟨V, C, W, Q, F, R, rfl, rfl, hQ, hC, hW⟩ := I
  obtain ⟨j, hj, ej⟩ := md_ex7 v1
  have hin : vp_in (v1 &&& 7) 8 := by rw [ej]; exact md_in8 hj
  have c1 : (-100 : Int32).toInt = -100 := by decide
  have c2 : (100 : Int32).toInt = 100 := by decide
  unfold wpX_weight wX_weight_11 wpY_weight
  dsimp only
  by_cases h1 : (-100 : Int32) ≤ v2
  · by_cases h2 : v2 ≤ 100
    · have b1 := Int32.le_iff_toInt_le.mp h1
      have b2 := Int32.le_iff_toInt_le.mp h2
      rw [c1] at b1
      rw [c2] at b2
      exact br_t h1 (br_t h2 (xa_w20 hin (br_t h1 (br_t h2 ⟨hin, nm_e (md_relw hQ hC hW ⟨b1, b2⟩)⟩))))
    · exact br_t h1 (br_f h2 (xa_w20 hin (br_t h1 (br_f h2 ⟨hin, nm_e (md_relw hQ hC hW (by rw [c2]; decide))⟩))))
  · exact br_f h1 (br_t (by decide) (xa_w20 hin (br_f h1 ⟨hin, nm_e (md_relw hQ hC hW (by rw [c1]; decide))⟩)))
theorem i_vc_rank {k : Nat} {u : SX} {v : SY} (I : i_Rel k u v) (hk : k + 3 ≤ 1536) (v1 : Int32) : wpX_rank (fun r => wpY_rank (fun r' v' => r' = r ∧ i_Rel (k + 3) u v') v v1) u v1 := by
  obtain ⟨V, C, W, Q, F, R, rfl, rfl, hQ, hC, hW⟩ := I
  obtain ⟨j, hj, ej⟩ := md_ex255 v1
  exact xa_rank hQ hj ej (ya_rank hj ej (fun F' R' => ⟨rfl, _, _, _, _, _, _, rfl, rfl, hQ, hC, hW⟩))
theorem i_vc_closure {k : Nat} {u : SX} {v : SY} (I : i_Rel k u v) (hk : k + 3 ≤ 1536) (v1 : Int32) : wpX_closure (fun r => wpY_closure (fun r' v' => r' = r ∧ i_Rel (k + 3) u v') v v1) u v1 := by
  obtain ⟨V, C, W, Q, F, R, rfl, rfl, hQ, hC, hW⟩ := I
  obtain ⟨j, hj, ej⟩ := md_ex255 v1
  exact xa_clo hQ hj ej (ya_clo hj ej (fun F' R' => ⟨rfl, _, _, _, _, _, _, rfl, rfl, hQ, hC, hW⟩))
theorem i_vc_bases {k : Nat} {u : SX} {v : SY} (I : i_Rel k u v) (hk : k + 3 ≤ 1536) : wpX_bases (fun r => wpY_bases (fun r' v' => r' = r ∧ i_Rel (k + 3) u v') v) u := by
  obtain ⟨V, C, W, Q, F, R, rfl, rfl, hQ, hC, hW⟩ := I
  exact xa_bases hQ (ya_bases (fun F' R' => ⟨rfl, _, _, _, _, _, _, rfl, rfl, hQ, hC, hW⟩))
theorem i_vc_polynomial {k : Nat} {u : SX} {v : SY} (I : i_Rel k u v) (hk : k + 3 ≤ 1536) (v1 : Int32) (v2 : Int32) : wpX_polynomial (fun r => wpY_polynomial (fun r' v' => r' = r ∧ i_Rel (k + 3) u v') v v1 v2) u v1 v2 := by
  obtain ⟨V, C, W, Q, F, R, rfl, rfl, hQ, hC, hW⟩ := I
  exact xa_poly hQ (ya_poly (fun F' R' => ⟨rfl, _, _, _, _, _, _, rfl, rfl, hQ, hC, hW⟩))
theorem i_vc_rainbow {k : Nat} {u : SX} {v : SY} (I : i_Rel k u v) (hk : k + 3 ≤ 1536) : wpX_rainbow (fun r => wpY_rainbow (fun r' v' => r' = r ∧ i_Rel (k + 3) u v') v) u := by
  obtain ⟨V, C, W, Q, F, R, rfl, rfl, hQ, hC, hW⟩ := I
  exact xa_rain hQ (ya_rain hC (fun F' R' => ⟨rfl, _, _, _, _, _, _, rfl, rfl, hQ, hC, hW⟩))
theorem i_vc_heaviest {k : Nat} {u : SX} {v : SY} (I : i_Rel k u v) (hk : k + 3 ≤ 1536) : wpX_heaviest (fun r => wpY_heaviest (fun r' v' => r' = r ∧ i_Rel (k + 3) u v') v) u := by
  obtain ⟨V, C, W, Q, F, R, rfl, rfl, hQ, hC, hW⟩ := I
  exact xa_heavy hQ (ya_heavy (fun F' R' => ⟨md_he_eq hW, _, _, _, _, _, _, rfl, rfl, hQ, hC, hW⟩))
theorem i_vc_circuits {k : Nat} {u : SX} {v : SY} (I : i_Rel k u v) (hk : k + 3 ≤ 1536) : wpX_circuits (fun r => wpY_circuits (fun r' v' => r' = r ∧ i_Rel (k + 3) u v') v) u := by
  obtain ⟨V, C, W, Q, F, R, rfl, rfl, hQ, hC, hW⟩ := I
  exact xa_circs hQ (ya_circs (fun F' R' => ⟨rfl, _, _, _, _, _, _, rfl, rfl, hQ, hC, hW⟩))
theorem i_vc_union {k : Nat} {u : SX} {v : SY} (I : i_Rel k u v) (hk : k + 3 ≤ 1536) : wpX_union (fun r => wpY_union (fun r' v' => r' = r ∧ i_Rel (k + 3) u v') v) u := by
  obtain ⟨V, C, W, Q, F, R, rfl, rfl, hQ, hC, hW⟩ := I
  exact xa_union hQ (ya_union (fun F' R' => ⟨rfl, _, _, _, _, _, _, rfl, rfl, hQ, hC, hW⟩))
