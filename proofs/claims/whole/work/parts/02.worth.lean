section
variable (m p q : Nat) (A S W B F : Nat → Int32)
theorem fg_m3 (f : Nat) : nI f * 3 = nI (f * 3) := pk_mul f 3
theorem fg_m8 (f : Nat) : nI f * 8 = nI (f * 8) := pk_mul f 8
/-- one turn of the loop of wayOf -/
theorem fg_ws (post : Int32 → Prop) {f a i w v s n : Nat} (hf : f < 7) (ha : a < 128) (hi : i < 3) (hw : w < 2 ^ i) (hv : v < 7) (hs : i < s) (hs3 : s ≤ 3) (hA : A (f * 3 + i) = nI v)
    (h : wX_wayOf_18 post (nI a) (nI (f * 3)) (nI s) (nI m) (nI p) (nI q) A S W n (nI (w + 2 ^ i * fg_bt a v)) (nI (i + 1))) :
    wX_wayOf_18 post (nI a) (nI (f * 3)) (nI s) (nI m) (nI p) (nI q) A S W (n + 1) (nI w) (nI i) := by
  have e : nI (f * 3) + nI i = nI (f * 3 + i) := nI_add _ _
  refine br_f (nI_ge hs (by omega)) ⟨?_, ?_⟩
  · rw [e]; exact vp_in_nI (by omega) (by omega)
  · rw [e, nI_clamp (by omega), hA]
    refine nm_r (fg_t1 a ha v hv) (nm_r (fg_t2 i hi w hw _ (fg_bt2 a v)) (nm_r (nI_1 i) h))
theorem fg_we (post : Int32 → Prop) {f a i s n : Nat} {x : Int32} (hs : s ≤ i) (hi : i ≤ 3) (h : post x) :
    wX_wayOf_18 post (nI a) (nI (f * 3)) (nI s) (nI m) (nI p) (nI q) A S W (n + 1) x (nI i) :=
  br_t (nI_le hs (by omega)) h
/-- the value of a variable, as the reference reads it -/
theorem fg_val (post : Int32 → Prop) {a v : Nat} (ha : a < 128) (hv : v < 7) (h : post (nI (fg_bt a v))) : wpY_value post (nI m, B, W, F) (nI a) (nI v) := by
  refine br_t (nI_pos' (by omega)) ?_
  rw [fg_t1 a ha v hv]; exact h
theorem fg_valn (post : Int32 → Prop) {a : Nat} (h : post 0) : wpY_value post (nI m, B, W, F) (nI a) (-1) :=
  br_f (by decide) h
/-- a factor's way, both sides -/
theorem fg_way {f a : Nat} (hf : f < 7) (ha : a < 128) (H : fg_Fac A S B f) : ∃ b0 b1 b2 : Nat, b0 < 2 ∧ b1 < 2 ∧ b2 < 2 ∧
    (∀ post : Int32 → Prop, post (nI (b0 + 2 * b1 + 4 * b2)) → wpX_wayOf post (nI m, nI p, nI q, A, S, W) (nI f) (nI a)) ∧
    (∀ post : Int32 → Prop, post (nI b0) → wpY_value post (nI m, B, W, F) (nI a) (B (f * 3))) ∧
    (∀ post : Int32 → Prop, post (nI b1) → wpY_value post (nI m, B, W, F) (nI a) (B (f * 3 + 1))) ∧
    (∀ post : Int32 → Prop, post (nI b2) → wpY_value post (nI m, B, W, F) (nI a) (B (f * 3 + 2))) := by
  have hin : vp_in (nI f) 7 := vp_in_nI hf (by omega)
  have hc : (nI f).toNatClampNeg = f := nI_clamp (by omega)
  have hS : ∀ {t : Nat}, t < 4 → S f = nI t → S (nI f).toNatClampNeg = nI t := fun _ e => by rw [hc]; exact e
  obtain ⟨x, hx, a0, b0, h⟩ := H
  have h0 : ∀ post : Int32 → Prop, post (nI (fg_bt a x)) → wpY_value post (nI m, B, W, F) (nI a) (B (f * 3)) := fun post hp => by rw [b0]; exact fg_val m W B F post ha hx hp
  have hm : ∀ {z : Int32}, z = -1 → ∀ post : Int32 → Prop, post (nI 0) → wpY_value post (nI m, B, W, F) (nI a) z := fun e post hp => by rw [e]; exact fg_valn m W B F post hp
  rcases h with ⟨s, b1, b2⟩ | ⟨y, hy, a1, b1, h⟩
  · refine ⟨fg_bt a x, 0, 0, fg_bt2 a x, by decide, by decide, fun post hp => ?_, h0, hm b1, hm b2⟩
    refine nm_r (fg_m3 f) ⟨hin, nm_r (hS (by decide) s) ⟨2, ?_⟩⟩
    refine fg_ws m p q A S W post (i := 0) (w := 0) hf ha (by decide) (by decide) hx (by decide) (by decide) a0 (fg_we m p q A S W post (by decide) (by decide) ?_)
    have e : 0 + 2 ^ 0 * fg_bt a x = fg_bt a x + 2 * 0 + 4 * 0 := by omega
    rw [e]; exact hp
  · have h1 : ∀ post : Int32 → Prop, post (nI (fg_bt a y)) → wpY_value post (nI m, B, W, F) (nI a) (B (f * 3 + 1)) := fun post hp => by rw [b1]; exact fg_val m W B F post ha hy hp
    have l0 := fg_bt2 a x
    have l1 := fg_bt2 a y
    rcases h with ⟨s, b2⟩ | ⟨z, hz, a2, b2, s⟩
    · refine ⟨fg_bt a x, fg_bt a y, 0, l0, l1, by decide, fun post hp => ?_, h0, h1, hm b2⟩
      refine nm_r (fg_m3 f) ⟨hin, nm_r (hS (by decide) s) ⟨3, ?_⟩⟩
      refine fg_ws m p q A S W post (i := 0) (w := 0) hf ha (by decide) (by decide) hx (by decide) (by decide) a0 ?_
      refine fg_ws m p q A S W post (i := 1) hf ha (by decide) (by omega) hy (by decide) (by decide) a1 (fg_we m p q A S W post (by decide) (by decide) ?_)
      have e : 0 + 2 ^ 0 * fg_bt a x + 2 ^ 1 * fg_bt a y = fg_bt a x + 2 * fg_bt a y + 4 * 0 := by omega
      rw [e]; exact hp
    · refine ⟨fg_bt a x, fg_bt a y, fg_bt a z, l0, l1, fg_bt2 a z, fun post hp => ?_, h0, h1, fun post hp => by rw [b2]; exact fg_val m W B F post ha hz hp⟩
      refine nm_r (fg_m3 f) ⟨hin, nm_r (hS (by decide) s) ⟨4, ?_⟩⟩
      refine fg_ws m p q A S W post (i := 0) (w := 0) hf ha (by decide) (by decide) hx (by decide) (by decide) a0 ?_
      refine fg_ws m p q A S W post (i := 1) hf ha (by decide) (by omega) hy (by decide) (by decide) a1 ?_
      refine fg_ws m p q A S W post (i := 2) hf ha (by decide) (by omega) hz (by decide) (by decide) a2 (fg_we m p q A S W post (by decide) (by decide) ?_)
      have e : 0 + 2 ^ 0 * fg_bt a x + 2 ^ 1 * fg_bt a y + 2 ^ 2 * fg_bt a z = fg_bt a x + 2 * fg_bt a y + 4 * fg_bt a z := by omega
      rw [e]; exact hp
theorem fg_wst {f b0 b1 b2 : Nat} : nI (f * 8) + nI b0 + 2 * nI b1 + 4 * nI b2 = nI (f * 8 + (b0 + 2 * b1 + 4 * b2)) := by
  have e1 : 2 * nI b1 = nI (2 * b1) := pk_mul 2 b1
  have e2 : 4 * nI b2 = nI (4 * b2) := pk_mul 4 b2
  rw [e1, e2, nI_add, nI_add, nI_add]
  congr 1; omega
/-- the product over the factors, both sides -/
theorem fg_prod {a : Nat} (ha : a < 128) (hm : m ≤ 7) (H : ∀ f, f < m → fg_Fac A S B f) (hW : fg_Wt W) : ∀ d j acc : Nat, j + d = m → acc ≤ 9 ^ j → ∃ r : Nat, r ≤ 9 ^ m ∧
    (∀ post : Int64 → Prop, post (lN r) → wX_worth_5 post (nI a) (nI m) (nI p) (nI q) A S W (d + 1) (lN acc) (nI j)) ∧
    (∀ post : Int64 → Prop, post (lN r) → wY_worth_15 post (nI a) (nI m) B W F (d + 1) (lN acc) (nI j)) := by
  intro d
  induction d with
  | zero =>
    intro j acc hj hacc
    have hjm : j = m := by omega
    subst hjm
    have h : nI j ≤ nI j := nI_le (Nat.le_refl j) (by omega)
    exact ⟨acc, hacc, fun _ hp => br_t h hp, fun _ hp => br_t h hp⟩
  | succ d ih =>
    intro j acc hj hacc
    have h : ¬ nI m ≤ nI j := nI_ge (by omega) (by omega)
    have hj7 : j < 7 := by omega
    obtain ⟨b0, b1, b2, l0, l1, l2, hX, hY0, hY1, hY2⟩ := fg_way m p q A S W B F hj7 ha (H j (by omega))
    obtain ⟨w, hw, eW⟩ := hW (j * 8 + (b0 + 2 * b1 + 4 * b2))
    have hacc' : acc * w ≤ 9 ^ (j + 1) := by rw [Nat.pow_succ]; exact Nat.mul_le_mul hacc hw
    obtain ⟨r, hr, rX, rY⟩ := ih (j + 1) (acc * w) (by omega) hacc'
    have eX : nI j * 8 + nI (b0 + 2 * b1 + 4 * b2) = nI (j * 8 + (b0 + 2 * b1 + 4 * b2)) := by rw [fg_m8, nI_add]
    have eY : nI j * 8 + nI b0 + 2 * nI b1 + 4 * nI b2 = nI (j * 8 + (b0 + 2 * b1 + 4 * b2)) := by rw [fg_m8]; exact fg_wst
    have hin : vp_in (nI (j * 8 + (b0 + 2 * b1 + 4 * b2))) 56 := vp_in_nI (by omega) (by omega)
    have ev : lN acc * (W (nI (j * 8 + (b0 + 2 * b1 + 4 * b2))).toNatClampNeg).toInt64 = lN (acc * w) := by
      rw [nI_clamp (by omega), eW, nI_l (by omega), lN_mul]
    have e3 : nI j * 3 = nI (j * 3) := fg_m3 j
    refine ⟨r, hr, fun post hp => br_f h (hX _ ?_), fun post hp => br_f h ⟨?_, ?_⟩⟩
    · rw [eX]
      exact ⟨hin, nm_r ev (nm_r (nI_1 j) (rX post hp))⟩
    · rw [e3]; exact vp_in_nI (by omega) (by omega)
    · rw [e3, nI_clamp (n := j * 3) (by omega)]
      have e31 : nI (j * 3) + 1 = nI (j * 3 + 1) := nI_1 _
      have e32 : nI (j * 3) + 2 = nI (j * 3 + 2) := nI_add _ 2
      rw [e31, e32, nI_clamp (n := j * 3 + 1) (by omega), nI_clamp (n := j * 3 + 2) (by omega)]
      refine hY0 _ ⟨vp_in_nI (n := j * 3 + 1) (by omega) (by omega), ?_⟩
      refine hY1 _ ⟨vp_in_nI (n := j * 3 + 2) (by omega) (by omega), ?_⟩
      refine hY2 _ ?_
      rw [eY]
      exact ⟨hin, nm_r ev (nm_r (nI_1 j) (rY post hp))⟩
/-- the reference's walk over the evidence -/
theorem fg_okv {v a : Nat} (M : fg_Mk p q F) (ha : a < 128) (hv : v < 7) : (F v < 0 ∨ (¬ F v < 0 ∧ F v = nI (fg_bt a v))) ↔ fg_bt a v * fg_bt p v = fg_bt q v := by
  have l := fg_bt01 a v
  rcases M.2.2 v hv with ⟨f, hp, hq⟩ | ⟨b, hb, f, hp, hq⟩
  · rw [hp, hq, f]; exact ⟨fun _ => by omega, fun _ => Or.inl (by decide)⟩
  · rw [hp, hq, f, nI_eq (by omega) (by omega), Nat.mul_one]
    have h0 : ¬ nI b < 0 := nI_pos (by omega)
    exact ⟨fun z => z.elim (fun z => absurd z h0) (fun z => z.2.symm), fun z => Or.inr ⟨h0, z.symm⟩⟩
theorem fg_alY {a : Nat} (ha : a < 128) (M : fg_Mk p q F) : ∀ d j : Nat, j + d = 7 → (∀ v, v < j → fg_bt a v * fg_bt p v = fg_bt q v) →
    (∀ post : Int32 → Prop, (a &&& p = q → post 1) → (¬ a &&& p = q → post 0) → wY_allowed_2 post (nI a) (nI m) B W F (d + 1) (nI j)) := by
  intro d
  induction d with
  | zero =>
    intro j hj hall post h1 h0
    refine br_t (nI_le (a := 7) (b := j) (by omega) (by omega)) (h1 ((fg_and ha M.1 M.2.1).mpr (fun v hv => hall v (by omega))))
  | succ d ih =>
    intro j hj hall post h1 h0
    have hj7 : j < 7 := by omega
    have hin : vp_in (nI j) 7 := vp_in_nI hj7 (by omega)
    have hc : (nI j).toNatClampNeg = j := nI_clamp (by omega)
    have go : fg_bt a j * fg_bt p j = fg_bt q j → wY_allowed_2 post (nI a) (nI m) B W F (d + 1) (nI (j + 1)) := fun z =>
      ih (j + 1) (by omega) (lt_s hall z) post h1 h0
    refine br_f (nI_ge (b := 7) hj7 (by decide)) ⟨hin, ?_⟩
    rw [hc]
    refine br_c (fun z => nm_r (nI_1 j) (go ((fg_okv p q F M ha hj7).mp (Or.inl z)))) (fun z => ⟨hin, ?_⟩)
    rw [fg_t1 a ha j hj7]
    refine br_c (fun e => nm_r (nI_1 j) (go ((fg_okv p q F M ha hj7).mp (Or.inr ⟨z, e⟩)))) (fun e => h0 (fun t => ?_))
    exact ((fg_okv p q F M ha hj7).mpr ((fg_and ha M.1 M.2.1).mp t j hj7)).elim z (fun t => e t.2)
end
/-- what the loops over the assignments need of the two states -/
def fg_If (u : SX) (v : SY) (al : Nat → Bool) (wo : Nat → Nat) : Prop := ∀ a, a < 128 →
  (∀ post : Int32 → Prop, al a = true → post 1 → wpX_isAllowed post u (nI a)) ∧
  (∀ post : Int32 → Prop, al a = false → post 0 → wpX_isAllowed post u (nI a)) ∧
  (∀ post : Int64 → Prop, post (lN (wo a)) → wpX_worth post u (nI a)) ∧
  (∀ post : Int32 → Prop, al a = true → post 1 → wpY_allowed post v (nI a)) ∧
  (∀ post : Int32 → Prop, al a = false → post 0 → wpY_allowed post v (nI a)) ∧
  (∀ post : Int64 → Prop, al a = true → post (lN (wo a)) → wpY_worth post v (nI a)) ∧
  (∀ post : Int64 → Prop, al a = false → post (lN 0) → wpY_worth post v (nI a)) ∧
  wo a < 2 ^ 31
theorem fg_iface {k : Nat} {u : SX} {v : SY} (I : i_Rel k u v) : ∃ (al : Nat → Bool) (wo : Nat → Nat), fg_If u v al wo ∧ ∃ a, a < 128 ∧ al a = true := by
  obtain ⟨m, p, q, A, S, W, B, F, rfl, rfl, hm, M, H, hW⟩ := I
  have hr : ∀ a, a < 128 → ∃ r : Nat, r ≤ 9 ^ m ∧
    (∀ post : Int64 → Prop, post (lN r) → wX_worth_5 post (nI a) (nI m) (nI p) (nI q) A S W (m + 1) (lN 1) (nI 0)) ∧
    (∀ post : Int64 → Prop, post (lN r) → wY_worth_15 post (nI a) (nI m) B W F (m + 1) (lN 1) (nI 0)) :=
    fun a ha => fg_prod m p q A S W B F ha hm H hW m 0 1 (by omega) (by decide)
  have hr' : ∀ a, ∃ r : Nat, a < 128 → r ≤ 9 ^ m ∧
    (∀ post : Int64 → Prop, post (lN r) → wX_worth_5 post (nI a) (nI m) (nI p) (nI q) A S W (m + 1) (lN 1) (nI 0)) ∧
    (∀ post : Int64 → Prop, post (lN r) → wY_worth_15 post (nI a) (nI m) B W F (m + 1) (lN 1) (nI 0)) := fun a => by
    by_cases ha : a < 128
    · obtain ⟨r, h⟩ := hr a ha
      exact ⟨r, fun _ => h⟩
    · exact ⟨0, fun z => absurd z ha⟩
  have hal : ∀ a, a < 128 → (nI a &&& nI p = nI q ↔ a &&& p = q) := fun a ha => by
    have : a &&& p ≤ a := Nat.and_le_left
    rw [nx_and, nI_eq (by omega) (by have := M.2.1; omega)]
  refine ⟨fun a => decide (a &&& p = q), fun a => (hr' a).choose, fun a ha => ?_, q, M.2.1, ?_⟩
  · have hh := (hr' a).choose_spec ha
    have p9 : 9 ^ m ≤ 9 ^ 7 := Nat.pow_le_pow_right (by decide) hm
    have aY : ∀ post : Int32 → Prop, (a &&& p = q → post 1) → (¬ a &&& p = q → post 0) → wpY_allowed post (nI m, B, W, F) (nI a) :=
      fun post h1 h0 => ⟨8, fg_alY m p q W B F ha M 7 0 rfl (fun v hv => absurd hv (by omega)) post h1 h0⟩
    refine ⟨fun post h hp => br_t ((hal a ha).mpr (of_decide_eq_true h)) hp, fun post h hp => br_f (fun z => of_decide_eq_false h ((hal a ha).mp z)) hp,
      fun post hp => ⟨m + 1, hh.2.1 post hp⟩, fun post h hp => aY post (fun _ => hp) (fun z => absurd (of_decide_eq_true h) z),
      fun post h hp => aY post (fun z => absurd z (of_decide_eq_false h)) (fun _ => hp), fun post h hp => ?_, fun post h hp => ?_, ?_⟩
    · exact aY _ (fun _ => br_f (by decide) ⟨m + 1, hh.2.2 post hp⟩) (fun z => absurd (of_decide_eq_true h) z)
    · exact aY _ (fun z => absurd z (of_decide_eq_false h)) (fun _ => br_t rfl hp)
    · exact Nat.lt_of_le_of_lt (Nat.le_trans hh.1 p9) (by decide)
  · refine decide_eq_true ((fg_and M.2.1 M.1 M.2.1).mpr fun v hv => ?_)
    rcases M.2.2 v hv with ⟨_, hp, hq⟩ | ⟨b, hb, _, hp, hq⟩
    · rw [hp, hq]
    · rw [hp, hq, Nat.mul_one]
