theorem fg_f10 {x y z c p q cy : Int32} {A S W B Wy F : Nat → Int32} (hyz : y = -1 → z = -1) :
    ((∀ post : Int32 → SX → Prop, post (-1) (c, p, q, A, S, W) → wX_factor_10 post x y z c p q A S W) ∧ (∀ post : Int32 → SY → Prop, post (-1) (cy, B, Wy, F) → wY_factor_10 post x y z cy B Wy F)) ∨
    (fg_Sh x y z ∧ (∀ post : Int32 → SX → Prop, wX_factor_60 post x y z c p q A S W → wX_factor_10 post x y z c p q A S W) ∧ (∀ post : Int32 → SY → Prop, wY_factor_70 post x y z cy B Wy F → wY_factor_10 post x y z cy B Wy F)) := by
  unfold wX_factor_10 wY_factor_10
  rcases fg_tri x with ⟨a, ha, rfl⟩ | hx
  · have nlt : ∀ {t : Int32}, (t = -1 ∨ ∃ j, j < 7 ∧ t = nI j) → ¬ t < -1 ∧ ¬ 6 < t := fun {t} ht => by
      rcases ht with rfl | ⟨j, hj, rfl⟩
      · exact ⟨by decide, by decide⟩
      · refine ⟨fun z => ?_, nI_nlt (a := 6) (by omega) (by decide)⟩
        have e1 : (-1 : Int32).toInt = -1 := by decide
        rw [Int32.lt_iff_toInt_lt, nI_toInt (by omega), e1] at z
        omega
    have okY : (y = -1 ∨ ∃ j, j < 7 ∧ y = nI j) ∨ (fg_No y ∧ ¬ y = -1 ∧ (y < -1 ∨ (¬ y < -1 ∧ 6 < y))) := by
      rcases fg_tri3 y with h | h | h
      · exact Or.inl (Or.inl h)
      · exact Or.inl (Or.inr h)
      · exact Or.inr h
    have okZ : (z = -1 ∨ ∃ j, j < 7 ∧ z = nI j) ∨ (fg_No z ∧ ¬ z = -1 ∧ (z < -1 ∨ (¬ z < -1 ∧ 6 < z))) := by
      rcases fg_tri3 z with h | h | h
      · exact Or.inl (Or.inl h)
      · exact Or.inl (Or.inr h)
      · exact Or.inr h
    rcases okY with oy | ⟨ny, ey, ty⟩
    · obtain ⟨y1, y2⟩ := nlt oy
      rcases okZ with oz | ⟨nz, ez, tz⟩
      · obtain ⟨z1, z2⟩ := nlt oz
        by_cases exy : nI a = y
        · exact Or.inl ⟨fun post h => fg_iv1 _ ha (br_f (by decide) (fg_ivn1 _ oy (br_f (by decide) (fg_ivn1 _ oz (br_f (by decide) (br_t exy h)))))),
            fun post h => fg_bad0 _ ha (br_t rfl (br_f y1 (br_f y2 (br_f z1 (br_f z2 (br_t exy h))))))⟩
        by_cases exz : nI a = z
        · exact Or.inl ⟨fun post h => fg_iv1 _ ha (br_f (by decide) (fg_ivn1 _ oy (br_f (by decide) (fg_ivn1 _ oz (br_f (by decide) (br_f exy (br_t exz h))))))),
            fun post h => fg_bad0 _ ha (br_t rfl (br_f y1 (br_f y2 (br_f z1 (br_f z2 (br_f exy (br_t exz h)))))))⟩
        by_cases ey : y = -1
        · exact Or.inr ⟨⟨a, ha, rfl, Or.inl ⟨ey, hyz ey⟩⟩, fun post h => fg_iv1 _ ha (br_f (by decide) (fg_ivn1 _ oy (br_f (by decide) (fg_ivn1 _ oz (br_f (by decide) (br_f exy (br_f exz (br_t ey h)))))))),
            fun post h => fg_bad0 _ ha (br_t rfl (br_f y1 (br_f y2 (br_f z1 (br_f z2 (br_f exy (br_f exz (br_t ey h))))))))⟩
        by_cases eyz : y = z
        · exact Or.inl ⟨fun post h => fg_iv1 _ ha (br_f (by decide) (fg_ivn1 _ oy (br_f (by decide) (fg_ivn1 _ oz (br_f (by decide) (br_f exy (br_f exz (br_f ey (br_t eyz h))))))))),
            fun post h => fg_bad0 _ ha (br_t rfl (br_f y1 (br_f y2 (br_f z1 (br_f z2 (br_f exy (br_f exz (br_f ey (br_t eyz h)))))))))⟩
        · have sh : fg_Sh (nI a) y z := by
            rcases oy with h | ⟨b, hb, h⟩
            · exact absurd h ey
            · exact ⟨a, ha, rfl, Or.inr ⟨b, hb, h, oz⟩⟩
          exact Or.inr ⟨sh, fun post h => fg_iv1 _ ha (br_f (by decide) (fg_ivn1 _ oy (br_f (by decide) (fg_ivn1 _ oz (br_f (by decide) (br_f exy (br_f exz (br_f ey (br_f eyz h))))))))),
            fun post h => fg_bad0 _ ha (br_t rfl (br_f y1 (br_f y2 (br_f z1 (br_f z2 (br_f exy (br_f exz (br_f ey (br_f eyz h)))))))))⟩
      · refine Or.inl ⟨fun post h => fg_iv1 _ ha (br_f (by decide) (fg_ivn1 _ oy (br_f (by decide) (fg_ivn0 _ nz ez (br_t rfl h))))), fun post h => fg_bad0 _ ha (br_t rfl (br_f y1 (br_f y2 ?_)))⟩
        rcases tz with t | ⟨t, t2⟩
        · exact br_t t h
        · exact br_f t (br_t t2 h)
    · refine Or.inl ⟨fun post h => fg_iv1 _ ha (br_f (by decide) (fg_ivn0 _ ny ey (br_t rfl h))), fun post h => fg_bad0 _ ha (br_t rfl ?_)⟩
      rcases ty with t | ⟨t, t2⟩
      · exact br_t t h
      · exact br_f t (br_t t2 h)
  · exact Or.inl ⟨fun post h => fg_iv0 _ hx (br_t rfl h), fun post h => fg_bad1 _ hx (br_f (by decide) h)⟩
theorem fg_f60 {k m p q : Nat} {A S W B F : Nat → Int32} {x y z : Int32} (hm : m ≤ 7) (M : fg_Mk p q F) (H : ∀ f, f < m → fg_Fac A S B f) (hW : fg_Wt W)
    (hyz : y = -1 → z = -1) (PX : Int32 → SX → Prop) (hX : ∀ r u', wY_factor_10 (fun r' v' => r' = r ∧ i_Rel k u' v') x y z (nI m) B W F → PX r u') : wX_factor_10 PX x y z (nI m) (nI p) (nI q) A S W := by
  have I : i_Rel k (nI m, nI p, nI q, A, S, W) (nI m, B, W, F) := ⟨m, p, q, A, S, W, B, F, rfl, rfl, hm, M, H, hW⟩
  rcases fg_f10 (x := x) (c := nI m) (p := nI p) (q := nI q) (cy := nI m) (A := A) (S := S) (W := W) (B := B) (Wy := W) (F := F) hyz with ⟨rX, rY⟩ | ⟨sh, gX, gY⟩
  · exact rX _ (hX _ _ (rY _ ⟨rfl, I⟩))
  · refine gX _ ?_
    by_cases h7 : m = 7
    · subst h7
      exact br_f (nI_nlt (a := 7) (b := 7) (by omega) (by decide)) (hX _ _ (gY _ (br_t rfl ⟨rfl, I⟩)))
    · have hm7 : m < 7 := by omega
      refine br_t (nI_lt (b := 7) hm7 (by decide)) (fg_setX hm7 sh _ (fg_resX hm7 _ (nm_r (nI_1 m) (hX _ _ (gY _ (br_f ?_ ?_))))))
      · exact fun t => h7 ((nI_eq (b := 7) (by omega) (by decide)).mp t)
      · have e3 : nI m * 3 = nI (m * 3) := fg_m3 m
        have e31 : nI (m * 3) + 1 = nI (m * 3 + 1) := nI_1 _
        have e32 : nI (m * 3) + 2 = nI (m * 3 + 2) := nI_add _ 2
        rw [e3, e31, e32, nI_clamp (n := m * 3) (by omega), nI_clamp (n := m * 3 + 1) (by omega), nI_clamp (n := m * 3 + 2) (by omega)]
        refine ⟨vp_in_nI (by omega) (by omega), nm_e ⟨vp_in_nI (by omega) (by omega), nm_e ⟨vp_in_nI (by omega) (by omega), nm_e (fg_resY hm7 _ ⟨rfl, ?_⟩)⟩⟩⟩
        exact ⟨m + 1, p, q, _, _, _, _, F, rfl, rfl, by omega, M, fg_FacN sh H, fg_w8t _ hW 8⟩
theorem i_vc_factor {k : Nat} {u : SX} {v : SY} (I : i_Rel k u v) (hk : k + 4 ≤ 2048) (v1 : Int32) (v2 : Int32) (v3 : Int32) : wpX_factor (fun r u' => wpY_factor (fun r' v' => r' = r ∧ i_Rel (k + 4) u' v') v v1 v2 v3) u v1 v2 v3 := by
  obtain ⟨m, p, q, A, S, W, B, F, rfl, rfl, hm, M, H, hW⟩ := I
  by_cases h : v2 = -1
  · exact br_t h (fg_f60 hm M H hW (fun _ => rfl) _ (fun r u' g => br_t h g))
  · exact br_f h (fg_f60 hm M H hW (fun z => absurd z h) _ (fun r u' g => br_f h g))
