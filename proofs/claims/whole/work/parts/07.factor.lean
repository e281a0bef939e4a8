/-- the weights after the first i of a new factor's were set to 1 -/
def fg_w8 (W : Nat → Int32) (b : Nat) : Nat → Nat → Int32
  | 0 => W
  | i + 1 => upd (fg_w8 W b i) (b + i) 1
theorem fg_w8t {W : Nat → Int32} (b : Nat) (h : fg_Wt W) : ∀ i, fg_Wt (fg_w8 W b i) := by
  intro i
  induction i with
  | zero => exact h
  | succ i ih =>
    intro j
    show ∃ w, w ≤ 9 ∧ upd (fg_w8 W b i) (b + i) 1 j = nI w
    by_cases e : j = b + i
    · subst e; rw [pk_us]; exact ⟨1, by decide, rfl⟩
    · rw [pk_un e]; exact ih j
theorem fg_resX {m : Nat} (hm : m < 7) (post : SX → Prop) {c p q : Int32} {A S W : Nat → Int32} (h : post (c, p, q, A, S, fg_w8 W (m * 8) 8)) : wpX_resetWeights post (c, p, q, A, S, W) (nI m) := by
  have key : ∀ d i, i + d = 8 → wX_resetWeights_7 post (nI (m * 8)) c p q (d + 1) (nI i) A S (fg_w8 W (m * 8) i) := by
    intro d
    induction d with
    | zero =>
      intro i hi
      have e : i = 8 := by omega
      subst e
      exact br_t (nI_le (a := 8) (b := 8) (by omega) (by omega)) h
    | succ d ih =>
      intro i hi
      have e : nI (m * 8) + nI i = nI (m * 8 + i) := nI_add _ _
      refine br_f (nI_ge (b := 8) (a := i) (by omega) (by decide)) ?_
      rw [e, nI_clamp (by omega)]
      exact ⟨vp_in_nI (by omega) (by omega), nm_e (nm_r (nI_1 i) (ih (i + 1) (by omega)))⟩
  exact nm_r (fg_m8 m) ⟨9, key 8 0 rfl⟩
theorem fg_resY {m : Nat} (hm : m < 7) (post : Int32 → SY → Prop) {B W F : Nat → Int32} (h : post (nI m) (nI (m + 1), B, fg_w8 W (m * 8) 8, F)) : ∃ n, wY_factor_126 post (nI m) n 0 B W F := by
  have key : ∀ d i, i + d = 8 → wY_factor_126 post (nI m) (d + 1) (nI i) B (fg_w8 W (m * 8) i) F := by
    intro d
    induction d with
    | zero =>
      intro i hi
      have e : i = 8 := by omega
      subst e
      refine br_t (nI_le (a := 8) (b := 8) (by omega) (by omega)) (nm_r (nI_1 m) ?_)
      rw [nI_pred]; exact h
    | succ d ih =>
      intro i hi
      have e : nI m * 8 + nI i = nI (m * 8 + i) := by rw [fg_m8]; exact nI_add _ _
      refine br_f (nI_ge (b := 8) (a := i) (by omega) (by decide)) ?_
      rw [e, nI_clamp (by omega)]
      exact ⟨vp_in_nI (by omega) (by omega), nm_e (nm_r (nI_1 i) (ih (i + 1) (by omega)))⟩
  exact ⟨9, key 8 0 rfl⟩
/-- the three shapes of a factor that is taken -/
def fg_Sh (x y z : Int32) : Prop := ∃ a, a < 7 ∧ x = nI a ∧ ((y = -1 ∧ z = -1) ∨ ∃ b, b < 7 ∧ y = nI b ∧ (z = -1 ∨ ∃ c, c < 7 ∧ z = nI c))
def fg_S (y z : Int32) : Int32 := if y = -1 then nI 1 else if z = -1 then nI 2 else nI 3
def fg_A (A : Nat → Int32) (i : Nat) (x y z : Int32) : Nat → Int32 := if y = -1 then upd A i x else if z = -1 then upd (upd A i x) (i + 1) y else upd (upd (upd A i x) (i + 1) y) (i + 2) z
theorem fg_nm1 {b : Nat} (h : b < 7) : ¬ nI b = -1 := fun z => by
  have := nI_pos (n := b) (by omega)
  rw [z] at this; exact this (by decide)
theorem fg_setX {m : Nat} (hm : m < 7) {x y z : Int32} (hs : fg_Sh x y z) (post : SX → Prop) {c p q : Int32} {A S W : Nat → Int32} (h : post (c, p, q, fg_A A (m * 3) x y z, upd S m (fg_S y z), W)) : wpX_setVariables post (c, p, q, A, S, W) (nI m) x y z := by
  have hin : vp_in (nI m) 7 := vp_in_nI hm (by omega)
  have hc : (nI m).toNatClampNeg = m := nI_clamp (by omega)
  have h0 : vp_in (nI (m * 3)) 21 := vp_in_nI (by omega) (by omega)
  have h1 : vp_in (nI (m * 3 + 1)) 21 := vp_in_nI (by omega) (by omega)
  have h2 : vp_in (nI (m * 3 + 2)) 21 := vp_in_nI (by omega) (by omega)
  have c0 : (nI (m * 3)).toNatClampNeg = m * 3 := nI_clamp (by omega)
  have c1 : (nI (m * 3 + 1)).toNatClampNeg = m * 3 + 1 := nI_clamp (by omega)
  have c2 : (nI (m * 3 + 2)).toNatClampNeg = m * 3 + 2 := nI_clamp (by omega)
  have e1 : nI (m * 3) + 1 = nI (m * 3 + 1) := nI_1 _
  have e2 : nI (m * 3) + nI 2 = nI (m * 3 + 2) := nI_add _ 2
  have e11 : (1 : Int32) + 1 = nI 2 := rfl
  have e21 : nI 2 + 1 = nI 3 := rfl
  obtain ⟨a, ha, rfl, hs⟩ := hs
  refine nm_r (fg_m3 m) ⟨h0, ?_⟩
  rw [c0]
  refine nm_e ?_
  rcases hs with ⟨rfl, rfl⟩ | ⟨b, hb, rfl, rfl | ⟨d, hd, rfl⟩⟩
  · refine br_t rfl (br_t rfl ⟨hin, ?_⟩)
    rw [hc]
    exact nm_e h
  · have eA : fg_A A (m * 3) (nI a) (nI b) (-1) = upd (upd A (m * 3) (nI a)) (m * 3 + 1) (nI b) := by
      unfold fg_A; rw [if_neg (fg_nm1 hb), if_pos rfl]
    have eS : fg_S (nI b) (-1) = nI 2 := by unfold fg_S; rw [if_neg (fg_nm1 hb), if_pos rfl]
    rw [eA, eS] at h
    refine br_f (fg_nm1 hb) ?_
    rw [e1, c1]
    refine ⟨h1, nm_e (nm_r e11 (br_t rfl ⟨hin, ?_⟩))⟩
    rw [hc]
    exact nm_e h
  · have eA : fg_A A (m * 3) (nI a) (nI b) (nI d) = upd (upd (upd A (m * 3) (nI a)) (m * 3 + 1) (nI b)) (m * 3 + 2) (nI d) := by
      unfold fg_A; rw [if_neg (fg_nm1 hb), if_neg (fg_nm1 hd)]
    have eS : fg_S (nI b) (nI d) = nI 3 := by unfold fg_S; rw [if_neg (fg_nm1 hb), if_neg (fg_nm1 hd)]
    rw [eA, eS] at h
    refine br_f (fg_nm1 hb) ?_
    rw [e1, c1]
    refine ⟨h1, nm_e (nm_r e11 (br_f (fg_nm1 hd) ?_))⟩
    rw [e2, c2]
    refine ⟨h2, nm_e (nm_r e21 ⟨hin, ?_⟩)⟩
    rw [hc]
    exact nm_e h
/-- the factors afterwards -/
theorem fg_FacN {m : Nat} {A S B : Nat → Int32} {x y z : Int32} (hs : fg_Sh x y z) (H : ∀ f, f < m → fg_Fac A S B f) :
    ∀ f, f < m + 1 → fg_Fac (fg_A A (m * 3) x y z) (upd S m (fg_S y z)) (upd (upd (upd B (m * 3) x) (m * 3 + 1) y) (m * 3 + 2) z) f := by
  refine lt_s (fun f hf => ?_) ?_
  · have hA : ∀ i, i < m * 3 → fg_A A (m * 3) x y z i = A i := fun i hi => by
      unfold fg_A
      by_cases hy : y = -1
      · rw [if_pos hy, pk_un (by omega)]
      · rw [if_neg hy]
        by_cases hz : z = -1
        · rw [if_pos hz, pk_un (by omega), pk_un (by omega)]
        · rw [if_neg hz, pk_un (by omega), pk_un (by omega), pk_un (by omega)]
    have hB : ∀ i, i < m * 3 → upd (upd (upd B (m * 3) x) (m * 3 + 1) y) (m * 3 + 2) z i = B i := fun i hi => by
      rw [pk_un (by omega), pk_un (by omega), pk_un (by omega)]
    unfold fg_Fac
    rw [hA _ (by omega), hA _ (by omega), hA _ (by omega), hB _ (by omega), hB _ (by omega), hB _ (by omega), pk_un (by omega)]
    exact H f hf
  · have b0 : upd (upd (upd B (m * 3) x) (m * 3 + 1) y) (m * 3 + 2) z (m * 3) = x := by rw [pk_un (by omega), pk_un (by omega), pk_us]
    have b1 : upd (upd (upd B (m * 3) x) (m * 3 + 1) y) (m * 3 + 2) z (m * 3 + 1) = y := by rw [pk_un (by omega), pk_us]
    unfold fg_Fac
    rw [b0, b1, pk_us, pk_us]
    obtain ⟨a, ha, rfl, hs⟩ := hs
    rcases hs with ⟨rfl, rfl⟩ | ⟨b, hb, rfl, rfl | ⟨d, hd, rfl⟩⟩
    · refine ⟨a, ha, ?_, rfl, Or.inl ⟨rfl, rfl, rfl⟩⟩
      show upd A (m * 3) (nI a) (m * 3) = nI a
      exact pk_us
    · have eA : fg_A A (m * 3) (nI a) (nI b) (-1) = upd (upd A (m * 3) (nI a)) (m * 3 + 1) (nI b) := by
        unfold fg_A; rw [if_neg (fg_nm1 hb), if_pos rfl]
      have eS : fg_S (nI b) (-1) = nI 2 := by unfold fg_S; rw [if_neg (fg_nm1 hb), if_pos rfl]
      rw [eA, eS]
      refine ⟨a, ha, ?_, rfl, Or.inr ⟨b, hb, pk_us, rfl, Or.inl ⟨rfl, rfl⟩⟩⟩
      rw [pk_un (by omega), pk_us]
    · have eA : fg_A A (m * 3) (nI a) (nI b) (nI d) = upd (upd (upd A (m * 3) (nI a)) (m * 3 + 1) (nI b)) (m * 3 + 2) (nI d) := by
        unfold fg_A; rw [if_neg (fg_nm1 hb), if_neg (fg_nm1 hd)]
      have eS : fg_S (nI b) (nI d) = nI 3 := by unfold fg_S; rw [if_neg (fg_nm1 hb), if_neg (fg_nm1 hd)]
      rw [eA, eS]
      refine ⟨a, ha, ?_, rfl, Or.inr ⟨b, hb, ?_, rfl, Or.inr ⟨d, hd, pk_us, rfl, rfl⟩⟩⟩
      · rw [pk_un (by omega), pk_un (by omega), pk_us]
      · rw [pk_un (by omega), pk_us]
/-- the tests of factor, both sides: refused, or taken -/
theorem fg_tri3 (x : Int32) : x = -1 ∨ (∃ j, j < 7 ∧ x = nI j) ∨ (fg_No x ∧ ¬ x = -1 ∧ (x < -1 ∨ (¬ x < -1 ∧ 6 < x))) := by
  rcases fg_tri x with h | h
  · exact Or.inr (Or.inl h)
  · by_cases e : x = -1
    · exact Or.inl e
    · refine Or.inr (Or.inr ⟨h, e, ?_⟩)
      have e1 : (-1 : Int32).toInt = -1 := by decide
      have e0 : (0 : Int32).toInt = 0 := by decide
      have e6 : (6 : Int32).toInt = 6 := by decide
      have e' : ¬ x.toInt = -1 := fun z => e (Int32.toInt_inj.mp (by rw [z, e1]))
      unfold fg_No at h
      rw [Int32.lt_iff_toInt_lt, Int32.le_iff_toInt_le, Int32.le_iff_toInt_le] at h
      rw [Int32.lt_iff_toInt_lt, Int32.lt_iff_toInt_lt, e1, e6]
      rw [e0, e6] at h
      omega
theorem fg_ivn1 (post : Int32 → Prop) {x : Int32} (hx : x = -1 ∨ ∃ j, j < 7 ∧ x = nI j) (h : post 1) : wpX_isVariableOrNone post x := by
  rcases hx with rfl | ⟨j, hj, rfl⟩
  · exact br_t rfl h
  · exact br_f (fg_nm1 hj) (fg_iv1 _ hj (br_f (by decide) h))
theorem fg_ivn0 (post : Int32 → Prop) {x : Int32} (hx : fg_No x) (hn : ¬ x = -1) (h : post 0) : wpX_isVariableOrNone post x :=
  br_f hn (fg_iv0 _ hx (br_t rfl h))
