/-- j is the smallest allowed assignment of the greatest worth -/
def fg_Bj (al : Nat → Bool) (wo : Nat → Nat) (n j : Nat) : Prop := j < n ∧ al j = true ∧ (∀ a, a < n → al a = true → wo a ≤ wo j) ∧ (∀ a, a < j → al a = true → wo a < wo j)
theorem fg_Bex (al : Nat → Bool) (wo : Nat → Nat) : ∀ n : Nat, (∀ a, a < n → al a = false) ∨ ∃ j, fg_Bj al wo n j := by
  intro n
  induction n with
  | zero => exact Or.inl (fun a ha => absurd ha (by omega))
  | succ n ih =>
    cases e : al n with
    | false =>
      rcases ih with h | ⟨j, h1, h2, h3, h4⟩
      · exact Or.inl (lt_s h e)
      · exact Or.inr ⟨j, by omega, h2, lt_s h3 (fun z => by rw [e] at z; exact absurd z (by decide)), h4⟩
    | true =>
      rcases ih with h | ⟨j, h1, h2, h3, h4⟩
      · refine Or.inr ⟨n, by omega, e, lt_s (fun a ha z => ?_) (fun _ => Nat.le_refl _), fun a ha z => ?_⟩
        · rw [h a ha] at z; exact absurd z (by decide)
        · rw [h a ha] at z; exact absurd z (by decide)
      · by_cases hw : wo n ≤ wo j
        · exact Or.inr ⟨j, by omega, h2, lt_s h3 (fun _ => hw), h4⟩
        · refine Or.inr ⟨n, by omega, e, lt_s (fun a ha z => ?_) (fun _ => Nat.le_refl _), fun a ha z => ?_⟩
          · have := h3 a ha z; omega
          · have := h3 a ha z; omega
section
variable {cx fx vx : Int32} {A S W : Nat → Int32} {cy : Int32} {B Wy F : Nat → Int32} {al : Nat → Bool} {wo : Nat → Nat}
/-- what X has found before assignment i -/
def fg_Xb (wo : Nat → Nat) (j i : Nat) (x1 : Int32) (x2 : Int64) : Prop := (j < i → x1 = nI j ∧ x2 = lN (wo j)) ∧ (i ≤ j → x2 = -1 ∨ ∃ g, g < wo j ∧ x2 = lN g)
theorem fg_m1 {w : Nat} (h : w < 2 ^ 31) : ¬ lN w ≤ -1 := by
  rw [Int64.le_iff_toInt_le, lN_toInt h]
  have e : (-1 : Int64).toInt = -1 := by decide
  rw [e]; omega
theorem fg_bestX (I : fg_If (cx, fx, vx, A, S, W) (cy, B, Wy, F) al wo) {j : Nat} (hj : fg_Bj al wo 128 j) (post : Int32 → Prop) (h : post (nI j)) : wpX_bestAssignment post (cx, fx, vx, A, S, W) := by
  have key : ∀ d i x1 x2, i + d = 128 → fg_Xb wo j i x1 x2 → wX_bestAssignment_9 post cx fx vx A S W (d + 1) x1 x2 (nI i) := by
    intro d
    induction d with
    | zero =>
      intro i x1 x2 hi hx
      have e : i = 128 := by omega
      subst e
      have := (hx.1 hj.1).1
      rw [this]
      exact br_t fg_128 h
    | succ d ih =>
      intro i x1 x2 hi hx
      have hi8 : i < 128 := by omega
      have J := I i hi8
      have hwi := J.2.2.2.2.2.2.2
      have hwj := (I j hj.1).2.2.2.2.2.2.2
      have e1 : nI i + 1 = nI (i + 1) := nI_1 i
      cases e : al i with
      | false =>
        have hne : i ≠ j := fun z => by rw [z, hj.2.1] at e; exact absurd e (by decide)
        exact br_f (fg_n128 hi8) (J.2.1 _ e (br_t rfl (nm_r e1 (ih (i + 1) x1 x2 (by omega) ⟨fun z => hx.1 (by omega), fun z => hx.2 (by omega)⟩))))
      | true =>
        refine br_f (fg_n128 hi8) (J.1 _ e (br_f (by decide) (J.2.2.1 _ (br_c (fun z => nm_r e1 (ih (i + 1) x1 x2 (by omega) ⟨fun t => ?_, fun t => hx.2 (by omega)⟩)) (fun z => nm_r e1 (ih (i + 1) (nI i) (lN (wo i)) (by omega) ⟨fun t => ?_, fun t => Or.inr ⟨wo i, hj.2.2.2 i (by omega) e, rfl⟩⟩))))))
        · by_cases hij : i = j
          · subst hij
            rcases hx.2 (Nat.le_refl _) with x | ⟨g, hg, x⟩
            · rw [x] at z; exact absurd z (fg_m1 hwi)
            · rw [x, lN_le hwi (by omega)] at z; omega
          · exact hx.1 (by omega)
        · by_cases hij : i = j
          · subst hij; exact ⟨rfl, rfl⟩
          · have x := (hx.1 (by omega)).2
            rw [x, lN_le hwi hwj] at z
            exact absurd (hj.2.2.1 i hi8 e) z
  exact ⟨129, key 128 0 0 (-1) rfl ⟨fun z => absurd z (by omega), fun _ => Or.inl rfl⟩⟩
theorem fg_gyl (I : fg_If (cx, fx, vx, A, S, W) (cy, B, Wy, F) al wo) {j : Nat} (hj : fg_Bj al wo 128 j) {i : Nat} (hi : i < 128) : fg_gy al wo i ≤ wo j := by
  unfold fg_gy
  by_cases h : al i = true
  · rw [if_pos h]; exact hj.2.2.1 i hi h
  · rw [if_neg h]; omega
theorem fg_bestY (I : fg_If (cx, fx, vx, A, S, W) (cy, B, Wy, F) al wo) {j : Nat} (hj : fg_Bj al wo 128 j) (post : Int64 → Prop) (h : post (lN (wo j))) : wpY_best post (cy, B, Wy, F) := by
  have hwj := (I j hj.1).2.2.2.2.2.2.2
  have key : ∀ d i g, i + d = 128 → g ≤ wo j → (j < i → g = wo j) → wY_best_4 post cy B Wy F (d + 1) (lN g) (nI i) := by
    intro d
    induction d with
    | zero =>
      intro i g hi hg hx
      have e : i = 128 := by omega
      subst e
      rw [hx hj.1]
      exact br_t fg_128 h
    | succ d ih =>
      intro i g hi hg hx
      have hi8 : i < 128 := by omega
      have hl := fg_gyl I hj hi8
      have e1 : nI i + 1 = nI (i + 1) := nI_1 i
      have ej : i = j → fg_gy al wo i = wo j := fun z => by unfold fg_gy; rw [z, if_pos hj.2.1]
      refine br_f (fg_n128 hi8) (fg_yw I hi8 _ (br_c (fun z => nm_r e1 (ih (i + 1) g (by omega) hg (fun t => ?_))) (fun z => nm_r e1 (ih (i + 1) _ (by omega) hl (fun t => ?_)))))
      · rw [lN_le (by omega) (by omega)] at z
        by_cases hij : i = j
        · have := ej hij; omega
        · exact hx (by omega)
      · rw [lN_le (by omega) (by omega)] at z
        by_cases hij : i = j
        · exact ej hij
        · have := hx (by omega); omega
  exact ⟨129, key 128 0 0 rfl (Nat.zero_le _) (fun z => absurd z (by omega))⟩
theorem fg_baY (I : fg_If (cx, fx, vx, A, S, W) (cy, B, Wy, F) al wo) {j : Nat} (hj : fg_Bj al wo 128 j) (post : Int32 → Prop) (h : post (nI j)) : wpY_bestAssignment post (cy, B, Wy, F) := by
  have hwj := (I j hj.1).2.2.2.2.2.2.2
  have key : ∀ d i, i + d = 128 → i ≤ j → wY_bestAssignment_7 post (lN (wo j)) cy B Wy F (d + 1) (nI i) := by
    intro d
    induction d with
    | zero => intro i hi hij; have := hj.1; omega
    | succ d ih =>
      intro i hi hij
      have hi8 : i < 128 := by omega
      have J := I i hi8
      have e1 : nI i + 1 = nI (i + 1) := nI_1 i
      have hw := J.2.2.2.2.2.2.2
      cases e : al i with
      | false =>
        have hne : i ≠ j := fun z => by rw [z, hj.2.1] at e; exact absurd e (by decide)
        exact br_f (fg_n128 hi8) (J.2.2.2.2.1 _ e (br_t rfl (nm_r e1 (ih (i + 1) (by omega) (by omega)))))
      | true =>
        refine br_f (fg_n128 hi8) (J.2.2.2.1 _ e (br_f (by decide) (J.2.2.2.2.2.1 _ e ?_)))
        by_cases hne : i = j
        · subst hne; exact br_t rfl h
        · have hlt := hj.2.2.2 i (by omega) e
          exact br_f (fun z => by rw [lN_eq hw hwj] at z; omega) (nm_r e1 (ih (i + 1) (by omega) (by omega)))
  unfold wpY_bestAssignment
  exact fg_bestY I hj _ ⟨129, key 128 0 rfl (Nat.zero_le _)⟩
/-- how many allowed assignments below n have a worth above 0 -/
def fg_ct (al : Nat → Bool) (wo : Nat → Nat) : Nat → Nat
  | 0 => 0
  | n + 1 => fg_ct al wo n + (if fg_gy al wo n = 0 then 0 else 1)
theorem fg_ct0 {i : Nat} (h : fg_gy al wo i = 0) : fg_ct al wo (i + 1) = fg_ct al wo i := by
  show _ + (if _ then _ else _) = _
  rw [if_pos h]; rfl
theorem fg_ct1 {i : Nat} (h : ¬ fg_gy al wo i = 0) : nI (fg_ct al wo i) + 1 = nI (fg_ct al wo (i + 1)) := by
  show _ = nI (_ + (if _ then _ else _))
  rw [if_neg h]; exact nI_1 _
theorem fg_le0 {w : Nat} (h : w < 2 ^ 31) : lN w ≤ 0 ↔ w = 0 := by
  have := lN_le (b := 0) h (by decide)
  constructor
  · intro z; have := this.mp z; omega
  · intro z; exact this.mpr (by omega)
theorem fg_posX (I : fg_If (cx, fx, vx, A, S, W) (cy, B, Wy, F) al wo) (post : Int32 → Prop) (h : post (nI (fg_ct al wo 128))) : wpX_possible post (cx, fx, vx, A, S, W) := by
  refine fg_loop (fun n s x => wX_possible_4 post cx fx vx A S W n s x) (fun i => nI (fg_ct al wo i)) (fun n => br_t fg_128 h) (fun n i hi ih => ?_)
  have J := I i hi
  have e1 : nI i + 1 = nI (i + 1) := nI_1 i
  have hw := J.2.2.2.2.2.2.2
  cases e : al i with
  | false =>
    have e0 : fg_gy al wo i = 0 := by unfold fg_gy; rw [e, if_neg (by decide)]
    rw [fg_ct0 e0] at ih
    exact br_f (fg_n128 hi) (J.2.1 _ e (br_t rfl (nm_r e1 ih)))
  | true =>
    have e0 : fg_gy al wo i = wo i := by unfold fg_gy; rw [e, if_pos rfl]
    refine br_f (fg_n128 hi) (J.1 _ e (br_f (by decide) (J.2.2.1 _ ?_)))
    by_cases hz : wo i = 0
    · rw [fg_ct0 (by rw [e0, hz])] at ih
      exact br_t ((fg_le0 hw).mpr hz) (nm_r e1 ih)
    · exact br_f (fun z => hz ((fg_le0 hw).mp z)) (nm_r (fg_ct1 (by rw [e0]; exact hz)) (nm_r e1 ih))
theorem fg_posY (I : fg_If (cx, fx, vx, A, S, W) (cy, B, Wy, F) al wo) (post : Int32 → Prop) (h : post (nI (fg_ct al wo 128))) : wpY_possible post (cy, B, Wy, F) := by
  refine fg_loop (fun n s x => wY_possible_4 post cy B Wy F n s x) (fun i => nI (fg_ct al wo i)) (fun n => br_t fg_128 h) (fun n i hi ih => ?_)
  have e1 : nI i + 1 = nI (i + 1) := nI_1 i
  have hw : fg_gy al wo i < 2 ^ 31 := by
    have := (I i hi).2.2.2.2.2.2.2
    unfold fg_gy
    by_cases h : al i = true
    · rw [if_pos h]; exact this
    · rw [if_neg h]; decide
  refine br_f (fg_n128 hi) (fg_yw I hi _ ?_)
  by_cases hz : fg_gy al wo i = 0
  · rw [fg_ct0 hz] at ih
    exact br_t ((fg_le0 hw).mpr hz) (nm_r e1 ih)
  · exact br_f (fun z => hz ((fg_le0 hw).mp z)) (nm_r (fg_ct1 hz) (nm_r e1 ih))
end
