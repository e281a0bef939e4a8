/-- not a variable's number -/
def fg_No (x : Int32) : Prop := x < 0 ∨ (¬ x < 0 ∧ 7 ≤ x ∧ ¬ x ≤ 6)
theorem fg_tri (x : Int32) : (∃ j, j < 7 ∧ x = nI j) ∨ fg_No x := by
  by_cases h : x < 0
  · exact Or.inr (Or.inl h)
  · obtain ⟨j, hj, rfl⟩ := nI_of h
    by_cases h7 : j < 7
    · exact Or.inl ⟨j, h7, rfl⟩
    · exact Or.inr (Or.inr ⟨h, nI_le (a := 7) (by omega) hj, nI_ge (a := 6) (by omega) hj⟩)
theorem fg_iv1 (post : Int32 → Prop) {j : Nat} (hj : j < 7) (h : post 1) : wpX_isVariable post (nI j) :=
  br_f (nI_pos (by omega)) (br_f (nI_ge (b := 7) hj (by decide)) h)
theorem fg_iv0 (post : Int32 → Prop) {x : Int32} (hx : fg_No x) (h : post 0) : wpX_isVariable post x := by
  rcases hx with hx | ⟨h0, h7, _⟩
  · exact br_t hx h
  · exact br_f h0 (br_t h7 h)
section
variable {cx fx vx : Int32} {A S W : Nat → Int32} {cy : Int32} {B Wy F : Nat → Int32} {al : Nat → Bool} {wo : Nat → Nat}
theorem fg_bad1 (post : Int32 → Prop) {x : Int32} (hx : fg_No x) (h : post 1) : wpY_bad post (cy, B, Wy, F) x := by
  rcases hx with hx | ⟨h0, _, h7⟩
  · exact br_t hx h
  · exact br_f h0 (br_f h7 h)
theorem fg_alikeY0 {x y : Int32} (hx : fg_No x ∨ ((∃ j, j < 7 ∧ x = nI j) ∧ fg_No y)) (post : Int64 → Prop) (h : post 0) : wpY_alike post (cy, B, Wy, F) x y := by
  refine fg_loop (fun n s z => wY_alike_5 post x y cy B Wy F n s z) (fun _ => (0 : Int64)) (fun n => br_t fg_128 h) (fun n i hi ih => ?_)
  have e1 : nI i + 1 = nI (i + 1) := nI_1 i
  rcases hx with hx | ⟨⟨j, hj, rfl⟩, hy⟩
  · exact br_f (fg_n128 hi) (fg_bad1 _ hx (br_f (by decide) (nm_r e1 ih)))
  · exact br_f (fg_n128 hi) (fg_bad0 _ hj (br_t rfl (fg_bad1 _ hy (br_f (by decide) (nm_r e1 ih)))))
theorem fg_shareX (I : fg_If (cx, fx, vx, A, S, W) (cy, B, Wy, F) al wo) {a : Nat} (ha : a < 7) (post : Int64 → Prop) (h : post (lN (fg_sm (fg_gb al wo a a) 128))) :
    wpX_sumWhere post (cx, fx, vx, A, S, W) ((1 : Int32) <<< (nI a &&& 31)) ((1 : Int32) <<< (nI a &&& 31)) := by
  refine fg_sumX I _ _ post ?_
  rw [fg_eqB al wo (a := a) (b := a) (fun i hi => ⟨fun z => ⟨(fg_t7 i hi a ha).mp z, (fg_t7 i hi a ha).mp z⟩, fun z => (fg_t7 i hi a ha).mpr z.1⟩)]
  exact h
theorem fg_bothX (I : fg_If (cx, fx, vx, A, S, W) (cy, B, Wy, F) al wo) {a b : Nat} (ha : a < 7) (hb : b < 7) (post : Int64 → Prop) (h : post (lN (fg_sm (fg_gb al wo a b) 128))) :
    wpX_sumWhere post (cx, fx, vx, A, S, W) (((1 : Int32) <<< (nI a &&& 31)) ||| ((1 : Int32) <<< (nI b &&& 31))) (((1 : Int32) <<< (nI a &&& 31)) ||| ((1 : Int32) <<< (nI b &&& 31))) := by
  refine fg_sumX I _ _ post ?_
  rw [fg_eqB al wo (a := a) (b := b) (fun i hi => fg_t8 i hi a ha b hb)]
  exact h
theorem fg_totX (I : fg_If (cx, fx, vx, A, S, W) (cy, B, Wy, F) al wo) (post : Int64 → Prop) (h : post (lN (fg_sm (fg_gy al wo) 128))) :
    wpX_sumWhere post (cx, fx, vx, A, S, W) 0 0 := by
  refine fg_sumX I _ _ post ?_
  rw [fg_eqT]
  exact h
theorem fg_shareY (I : fg_If (cx, fx, vx, A, S, W) (cy, B, Wy, F) al wo) {a : Nat} (ha : a < 7) (post : Int64 → Prop) (h : post (lN (fg_sm (fg_gb al wo a a) 128))) :
    wpY_share post (cy, B, Wy, F) (nI a) := by
  unfold wpY_share
  exact fg_bad0 _ ha (br_t rfl (fg_bothY I ha ha _ h))
end
theorem i_vc_total {k : Nat} {u : SX} {v : SY} (I : i_Rel k u v) (hk : k + 4 ≤ 2048) : wpX_total (fun r => wpY_total (fun r' => r' = r ∧ i_Rel (k + 4) u v) v) u := by
  obtain ⟨al, wo, J, _⟩ := fg_iface I
  obtain ⟨cx, fx, vx, A, S, W⟩ := u
  obtain ⟨cy, B, Wy, F⟩ := v
  unfold wpX_total
  exact fg_totX J _ (fg_totY J _ ⟨rfl, I⟩)
theorem i_vc_share {k : Nat} {u : SX} {v : SY} (I : i_Rel k u v) (hk : k + 4 ≤ 2048) (v1 : Int32) : wpX_share (fun r => wpY_share (fun r' => r' = r ∧ i_Rel (k + 4) u v) v v1) u v1 := by
  obtain ⟨al, wo, J, _⟩ := fg_iface I
  obtain ⟨cx, fx, vx, A, S, W⟩ := u
  obtain ⟨cy, B, Wy, F⟩ := v
  unfold wpX_share
  rcases fg_tri v1 with ⟨a, ha, rfl⟩ | h1
  · exact fg_iv1 _ ha (br_f (by decide) (nm_e (fg_shareX J ha _ (fg_shareY J ha _ ⟨rfl, I⟩))))
  · refine fg_iv0 _ h1 (br_t rfl ?_)
    unfold wpY_share
    exact fg_bad1 _ h1 (br_f (by decide) ⟨rfl, I⟩)
theorem i_vc_alike {k : Nat} {u : SX} {v : SY} (I : i_Rel k u v) (hk : k + 4 ≤ 2048) (v1 : Int32) (v2 : Int32) : wpX_alike (fun r => wpY_alike (fun r' => r' = r ∧ i_Rel (k + 4) u v) v v1 v2) u v1 v2 := by
  obtain ⟨al, wo, J, _⟩ := fg_iface I
  obtain ⟨cx, fx, vx, A, S, W⟩ := u
  obtain ⟨cy, B, Wy, F⟩ := v
  unfold wpX_alike
  rcases fg_tri v1 with ⟨a, ha, rfl⟩ | h1
  · rcases fg_tri v2 with ⟨b, hb, rfl⟩ | h2
    · refine fg_iv1 _ ha (br_f (by decide) (fg_iv1 _ hb (br_f (by decide) (nm_e ?_))))
      refine fg_sumX J _ _ _ (fg_sumX J _ _ _ (fg_alikeY J ha hb _ ⟨?_, I⟩))
      rw [lN_add, fg_eqA al wo (a := a) (b := b) (fun i hi => fg_t8 i hi a ha b hb) (fun i hi => fg_t9 i hi a ha b hb)]
    · exact fg_iv1 _ ha (br_f (by decide) (fg_iv0 _ h2 (br_t rfl (fg_alikeY0 (Or.inr ⟨⟨a, ha, rfl⟩, h2⟩) _ ⟨rfl, I⟩))))
  · exact fg_iv0 _ h1 (br_t rfl (fg_alikeY0 (Or.inl h1) _ ⟨rfl, I⟩))
theorem fg_bj {al : Nat → Bool} {wo : Nat → Nat} (h : ∃ a, a < 128 ∧ al a = true) : ∃ j, fg_Bj al wo 128 j := by
  obtain ⟨a, ha, e⟩ := h
  rcases fg_Bex al wo 128 with z | z
  · rw [z a ha] at e; exact absurd e (by decide)
  · exact z
theorem i_vc_best {k : Nat} {u : SX} {v : SY} (I : i_Rel k u v) (hk : k + 4 ≤ 2048) : wpX_best (fun r => wpY_best (fun r' => r' = r ∧ i_Rel (k + 4) u v) v) u := by
  obtain ⟨al, wo, J, E⟩ := fg_iface I
  obtain ⟨cx, fx, vx, A, S, W⟩ := u
  obtain ⟨cy, B, Wy, F⟩ := v
  obtain ⟨j, hj⟩ := fg_bj (wo := wo) E
  unfold wpX_best
  exact fg_bestX J hj _ ((J j hj.1).2.2.1 _ (fg_bestY J hj _ ⟨rfl, I⟩))
theorem i_vc_bestAssignment {k : Nat} {u : SX} {v : SY} (I : i_Rel k u v) (hk : k + 4 ≤ 2048) : wpX_bestAssignment (fun r => wpY_bestAssignment (fun r' => r' = r ∧ i_Rel (k + 4) u v) v) u := by
  obtain ⟨al, wo, J, E⟩ := fg_iface I
  obtain ⟨cx, fx, vx, A, S, W⟩ := u
  obtain ⟨cy, B, Wy, F⟩ := v
  obtain ⟨j, hj⟩ := fg_bj (wo := wo) E
  exact fg_bestX J hj _ (fg_baY J hj _ ⟨rfl, I⟩)
theorem i_vc_possible {k : Nat} {u : SX} {v : SY} (I : i_Rel k u v) (hk : k + 4 ≤ 2048) : wpX_possible (fun r => wpY_possible (fun r' => r' = r ∧ i_Rel (k + 4) u v) v) u := by
  obtain ⟨al, wo, J, _⟩ := fg_iface I
  obtain ⟨cx, fx, vx, A, S, W⟩ := u
  obtain ⟨cy, B, Wy, F⟩ := v
  exact fg_posX J _ (fg_posY J _ ⟨rfl, I⟩)
theorem i_vc_independent {k : Nat} {u : SX} {v : SY} (I : i_Rel k u v) (hk : k + 4 ≤ 2048) (v1 : Int32) (v2 : Int32) : wpX_independent (fun r => wpY_independent (fun r' => r' = r ∧ i_Rel (k + 4) u v) v v1 v2) u v1 v2 := by
  obtain ⟨al, wo, J, _⟩ := fg_iface I
  obtain ⟨cx, fx, vx, A, S, W⟩ := u
  obtain ⟨cy, B, Wy, F⟩ := v
  unfold wpX_independent
  rcases fg_tri v1 with ⟨a, ha, rfl⟩ | h1
  · rcases fg_tri v2 with ⟨b, hb, rfl⟩ | h2
    · refine fg_iv1 _ ha (br_f (by decide) (fg_iv1 _ hb (br_f (by decide) (nm_e (nm_e (nm_e ?_))))))
      refine fg_shareX J ha _ (fg_shareX J hb _ (fg_totX J _ (fg_bothX J ha hb _ ?_)))
      have Y : ∀ post : Int32 → Prop, ((lN (fg_sm (fg_gy al wo) 128) * lN (fg_sm (fg_gb al wo a b) 128) = lN (fg_sm (fg_gb al wo a a) 128) * lN (fg_sm (fg_gb al wo b b) 128) → post 1) ∧ (¬ lN (fg_sm (fg_gy al wo) 128) * lN (fg_sm (fg_gb al wo a b) 128) = lN (fg_sm (fg_gb al wo a a) 128) * lN (fg_sm (fg_gb al wo b b) 128) → post 0)) → wpY_independent post (cy, B, Wy, F) (nI a) (nI b) := fun post hp => by
        unfold wpY_independent
        exact fg_bad0 _ ha (br_t rfl (fg_bad0 _ hb (br_t rfl (fg_totY J _ (fg_bothY J ha hb _ (fg_shareY J ha _ (fg_shareY J hb _ hp)))))))
      exact br_c (fun z => Y _ (br_t z ⟨rfl, I⟩)) (fun z => Y _ (br_f z ⟨rfl, I⟩))
    · refine fg_iv1 _ ha (br_f (by decide) (fg_iv0 _ h2 (br_t rfl ?_)))
      unfold wpY_independent
      exact fg_bad0 _ ha (br_t rfl (fg_bad1 _ h2 (br_f (by decide) ⟨rfl, I⟩)))
  · refine fg_iv0 _ h1 (br_t rfl ?_)
    unfold wpY_independent
    exact fg_bad1 _ h1 (br_f (by decide) ⟨rfl, I⟩)
