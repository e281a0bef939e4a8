theorem i_vc0 : wpX_init (fun u => wpY_init (fun v => i_Rel 0 u v)) := by
  have key : ∀ (post : SY → Prop) (B W : Nat → Int32), (∀ F : Nat → Int32, (∀ v, v < 7 → F v = -1) → post (0, B, W, F)) → ∀ (d j : Nat) (F : Nat → Int32), j + d = 7 → (∀ v, v < j → F v = -1) → wY_init_30 post 0 (d + 1) (nI j) B W F := by
    intro post B W hp d
    induction d with
    | zero =>
      intro j F hj hF
      exact br_t (nI_le (a := 7) (b := j) (by omega) (by omega)) (hp F (fun v hv => hF v (by omega)))
    | succ d ih =>
      intro j F hj hF
      refine br_f (nI_ge (b := 7) (a := j) (by omega) (by decide)) ⟨vp_in_nI (by omega) (by omega), ?_⟩
      rw [nI_clamp (by omega)]
      refine nm_e (nm_r (nI_1 j) (ih (j + 1) _ (by omega) (lt_s (fun v hv => ?_) pk_us)))
      rw [pk_un (by omega)]; exact hF v hv
  refine ⟨8, key _ _ _ (fun F hF => ?_) 7 0 _ rfl (fun v hv => absurd hv (by omega))⟩
  refine ⟨0, 0, 0, _, _, _, _, F, rfl, rfl, by decide, ⟨by decide, by decide, fun v hv => Or.inl ⟨hF v hv, ?_, ?_⟩⟩, fun f hf => absurd hf (by omega), fun i => ⟨0, by decide, rfl⟩⟩
  · unfold fg_bt; rw [Nat.zero_div]
  · unfold fg_bt; rw [Nat.zero_div]
theorem i_vc_drop {k : Nat} {u : SX} {v : SY} (I : i_Rel k u v) (hk : k + 4 ≤ 2048) : wpX_drop (fun r u' => wpY_drop (fun r' v' => r' = r ∧ i_Rel (k + 4) u' v') v) u := by
  have I' := I
  obtain ⟨m, p, q, A, S, W, B, F, rfl, rfl, hm, M, H, hW⟩ := I
  cases m with
  | zero => exact br_t rfl (br_t rfl ⟨rfl, I'⟩)
  | succ m =>
    have h : ¬ nI (m + 1) = 0 := nI_ne0 (by omega) (by omega)
    refine br_f h (nm_r (nI_pred m) (br_f h (nm_r (nI_pred m) ⟨rfl, ?_⟩)))
    exact ⟨m, p, q, A, S, W, B, F, rfl, rfl, by omega, M, fun f hf => H f (by omega), hW⟩
theorem fg_pv {x : Int32} (h1 : ¬ x < -1) (h2 : x ≤ 1) : x = -1 ∨ ∃ b, b < 2 ∧ x = nI b := by
  by_cases h : x < 0
  · refine Or.inl (Int32.toInt_inj.mp ?_)
    rw [Int32.lt_iff_toInt_lt] at h h1
    have e : (-1 : Int32).toInt = -1 := by decide
    have e0 : (0 : Int32).toInt = 0 := by decide
    rw [e] at h1 ⊢
    rw [e0] at h
    omega
  · obtain ⟨j, hj, e⟩ := nI_of2 (M := 1) (n := 1) (by decide) h h2
    exact Or.inr ⟨j, by omega, e⟩
theorem fg_MkU {p q v c b : Nat} {F : Nat → Int32} {x : Int32} (M : fg_Mk p q F) (hv : v < 7) (hx : (c = 0 ∧ b = 0 ∧ x = -1) ∨ (c = 1 ∧ b < 2 ∧ x = nI b)) : fg_Mk (fg_st p v c) (fg_st q v b) (upd F v x) := by
  have hc : c < 2 := by omega
  have hb : b < 2 := by omega
  refine ⟨(fg_t4 p M.1 v hv c hc).2, (fg_t4 q M.2.1 v hv b hb).2, fun w hw => ?_⟩
  rw [fg_t4b p M.1 v hv c hc w hw, fg_t4b q M.2.1 v hv b hb w hw]
  by_cases e : w = v
  · subst e
    rw [if_pos rfl, if_pos rfl, pk_us]
    rcases hx with ⟨h1, h2, h3⟩ | ⟨h1, h2, h3⟩
    · exact Or.inl ⟨h3, h1, h2⟩
    · exact Or.inr ⟨b, h2, h3, h1, rfl⟩
  · rw [if_neg e, if_neg e, pk_un e]
    exact M.2.2 w hw
theorem i_vc_evidence {k : Nat} {u : SX} {v : SY} (I : i_Rel k u v) (hk : k + 4 ≤ 2048) (v1 : Int32) (v2 : Int32) : wpX_evidence (fun r u' => wpY_evidence (fun r' v' => r' = r ∧ i_Rel (k + 4) u' v') v v1 v2) u v1 v2 := by
  have I' := I
  obtain ⟨m, p, q, A, S, W, B, F, rfl, rfl, hm, M, H, hW⟩ := I
  unfold wpX_evidence
  rcases fg_tri v1 with ⟨v, hv, rfl⟩ | h1
  · have hin : vp_in (nI v) 7 := vp_in_nI hv (by omega)
    have hc : (nI v).toNatClampNeg = v := nI_clamp (by omega)
    refine fg_iv1 _ hv (br_f (by decide) ?_)
    by_cases a1 : v2 < -1
    · refine br_t a1 ?_
      unfold wpY_evidence
      exact fg_bad0 _ hv (br_t rfl (br_t a1 ⟨rfl, I'⟩))
    · refine br_f a1 ?_
      by_cases a2 : v2 ≤ 1
      · refine br_t a2 (nm_e ?_)
        have Y : ∀ post : Int32 → SY → Prop, post (F v) (nI m, B, W, upd F v v2) → wpY_evidence post (nI m, B, W, F) (nI v) v2 := fun post hp => by
          unfold wpY_evidence
          refine fg_bad0 _ hv (br_t rfl (br_f a1 (br_t a2 ⟨hin, ?_⟩)))
          rw [hc]
          exact nm_e ⟨hin, nm_e hp⟩
        have X : wX_evidence_48 (fun r u' => wpY_evidence (fun r' v' => r' = r ∧ i_Rel (k + 4) u' v') (nI m, B, W, F) (nI v) v2) (nI v) v2 ((1 : Int32) <<< (nI v &&& 31)) (F v) (nI m) (nI p) (nI q) A S W := by
          refine nm_r (fg_t3 p M.1 v hv) (nm_r (fg_t3 q M.2.1 v hv) ?_)
          rcases fg_pv a1 a2 with rfl | ⟨b, hb, rfl⟩
          · refine br_t rfl (Y _ ⟨rfl, ?_⟩)
            refine ⟨m, fg_cl p v, fg_cl q v, A, S, W, B, _, rfl, rfl, hm, ?_, H, hW⟩
            rw [← fg_cl0, ← fg_cl0]
            exact fg_MkU M hv (Or.inl ⟨rfl, rfl, rfl⟩)
          · have hb' : ¬ nI b = -1 := fun z => by
              have := nI_pos (n := b) (by omega)
              rw [z] at this; exact this (by decide)
            refine br_f hb' (nm_r (fg_t4 p M.1 v hv 1 (by decide)).1 (nm_r (fg_t4 q M.2.1 v hv b hb).1 (Y _ ⟨rfl, ?_⟩)))
            exact ⟨m, fg_st p v 1, fg_st q v b, A, S, W, B, _, rfl, rfl, hm, fg_MkU M hv (Or.inr ⟨rfl, hb, rfl⟩), H, hW⟩
        rcases M.2.2 v hv with ⟨f, hp, hq⟩ | ⟨b, hb, f, hp, hq⟩
        · rw [f] at X
          exact br_t ((fg_t5 p M.1 v hv).mpr hp) X
        · rw [f] at X
          have e : (nI q >>> (nI v &&& 31)) &&& 1 = nI b := by rw [fg_t1 q M.2.1 v hv, hq]
          exact br_f (fun z => by have := (fg_t5 p M.1 v hv).mp z; omega) (nm_r e X)
      · refine br_f a2 ?_
        unfold wpY_evidence
        exact fg_bad0 _ hv (br_t rfl (br_f a1 (br_f a2 ⟨rfl, I'⟩)))
  · refine fg_iv0 _ h1 (br_t rfl ?_)
    unfold wpY_evidence
    exact fg_bad1 _ h1 (br_f (by decide) ⟨rfl, I'⟩)
theorem i_vc_weight {k : Nat} {u : SX} {v : SY} (I : i_Rel k u v) (hk : k + 4 ≤ 2048) (v1 : Int32) (v2 : Int32) (v3 : Int32) : wpX_weight (fun r u' => wpY_weight (fun r' v' => r' = r ∧ i_Rel (k + 4) u' v') v v1 v2 v3) u v1 v2 v3 := by
  have I' := I
  obtain ⟨m, p, q, A, S, W, B, F, rfl, rfl, hm, M, H, hW⟩ := I
  by_cases a1 : v1 < 0
  · exact br_t a1 (br_t a1 ⟨rfl, I'⟩)
  · obtain ⟨f, hf, rfl⟩ := nI_of a1
    by_cases a2 : nI f < nI m
    · have hfm : f < m := (nI_ltI hf (by omega)).mp a2
      have hin : vp_in (nI f) 7 := vp_in_nI (by omega) (by omega)
      have hc : (nI f).toNatClampNeg = f := nI_clamp (by omega)
      have e31 : nI f * 3 + 1 = nI (f * 3 + 1) := by rw [fg_m3]; exact nI_1 _
      have e32 : nI f * 3 + 2 = nI (f * 3 + 2) := by rw [fg_m3]; exact nI_add _ 2
      have h1in : vp_in (nI f * 3 + 1) 21 := by rw [e31]; exact vp_in_nI (by omega) (by omega)
      have h2in : vp_in (nI f * 3 + 2) 21 := by rw [e32]; exact vp_in_nI (by omega) (by omega)
      -- the reference's number of ways
      have ways : ∃ s, s < 4 ∧ S f = nI s ∧ ∀ post : Int32 → SY → Prop, wY_weight_51 post (nI f) v2 v3 (nI (2 ^ s)) (nI m) B W F → wpY_weight post (nI m, B, W, F) (nI f) v2 v3 := by
        have c1 : B (nI f * 3 + 1).toNatClampNeg = B (f * 3 + 1) := by rw [e31, nI_clamp (by omega)]
        have c2 : B (nI f * 3 + 2).toNatClampNeg = B (f * 3 + 2) := by rw [e32, nI_clamp (by omega)]
        obtain ⟨x, hx, _, b0, h⟩ := H f hfm
        rcases h with ⟨s, b1, b2⟩ | ⟨y, hy, _, b1, h⟩
        · refine ⟨1, by decide, s, fun post h => br_f a1 (br_t a2 ⟨h1in, br_f ?_ h⟩)⟩
          rw [c1, b1]; decide
        · have z1 : 0 ≤ B (nI f * 3 + 1).toNatClampNeg := by rw [c1, b1]; exact nI_pos' (by omega)
          rcases h with ⟨s, b2⟩ | ⟨z, hz, _, b2, s⟩
          · refine ⟨2, by decide, s, fun post h => br_f a1 (br_t a2 ⟨h1in, br_t z1 ⟨h2in, br_f ?_ h⟩⟩)⟩
            rw [c2, b2]; decide
          · refine ⟨3, by decide, s, fun post h => br_f a1 (br_t a2 ⟨h1in, br_t z1 ⟨h2in, br_t ?_ h⟩⟩)⟩
            rw [c2, b2]; exact nI_pos' (by omega)
      obtain ⟨s, hs, eS, Y⟩ := ways
      refine br_f a1 (br_t a2 ?_)
      by_cases a3 : v2 < 0
      · exact br_t a3 (Y _ (br_t a3 ⟨rfl, I'⟩))
      · refine br_f a3 ⟨hin, ?_⟩
        rw [hc, eS, fg_t10 s hs]
        by_cases a4 : v2 < nI (2 ^ s)
        · refine br_t a4 ?_
          by_cases a5 : v3 < 0
          · exact br_t a5 (Y _ (br_f a3 (br_t a4 (br_t a5 ⟨rfl, I'⟩))))
          · refine br_f a5 ?_
            by_cases a6 : v3 ≤ 9
            · obtain ⟨j, hj, rfl⟩ := nI_of a3
              obtain ⟨w, hw, rfl⟩ := nI_of2 (M := 9) (n := 9) (by decide) a5 a6
              have p8 : 2 ^ s ≤ 8 := by
                have : 2 ^ s ≤ 2 ^ 3 := Nat.pow_le_pow_right (by decide) (by omega)
                exact this
              have hj8 : j < 2 ^ s := (nI_ltI hj (by omega)).mp a4
              have e8 : nI f * 8 + nI j = nI (f * 8 + j) := by rw [fg_m8, nI_add]
              have h8 : vp_in (nI (f * 8 + j)) 56 := vp_in_nI (by omega) (by omega)
              have hc8 : (nI (f * 8 + j)).toNatClampNeg = f * 8 + j := nI_clamp (by omega)
              refine br_t a6 (nm_r e8 ⟨h8, nm_e ⟨h8, nm_e (Y _ (br_f a3 (br_t a4 (br_f a5 (br_t a6 ?_)))))⟩⟩)
              rw [e8]
              refine ⟨h8, nm_e ⟨h8, nm_e ⟨rfl, ?_⟩⟩⟩
              refine ⟨m, p, q, A, S, _, B, F, rfl, rfl, hm, M, H, fun i => ?_⟩
              by_cases ei : i = (nI (f * 8 + j)).toNatClampNeg
              · rw [ei, pk_us]; exact ⟨w, hw, rfl⟩
              · rw [pk_un ei]; exact hW i
            · exact br_f a6 (Y _ (br_f a3 (br_t a4 (br_f a5 (br_f a6 ⟨rfl, I'⟩)))))
        · exact br_f a4 (Y _ (br_f a3 (br_f a4 ⟨rfl, I'⟩)))
    · exact br_f a1 (br_f a2 (br_f a1 (br_f a2 ⟨rfl, I'⟩)))
