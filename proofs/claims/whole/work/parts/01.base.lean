theorem pk_us {f : Nat → Int32} {k : Nat} {x : Int32} : upd f k x k = x := if_pos rfl
theorem pk_un {f : Nat → Int32} {k j : Nat} {x : Int32} (h : j ≠ k) : upd f k x j = f j := if_neg h
theorem pk_mul (a b : Nat) : nI a * nI b = nI (a * b) := (Int32.ofNat_mul a b).symm
theorem pk_ix (x : Int32) {n : Nat} (hn : n < 2 ^ 31) : x < 0 ∨ nI n ≤ x ∨ ∃ j : Nat, j < n ∧ x = nI j := by
  by_cases h : x < 0
  · exact Or.inl h
  · obtain ⟨j, hj, rfl⟩ := nI_of h
    by_cases h2 : j < n
    · exact Or.inr (Or.inr ⟨j, h2, rfl⟩)
    · exact Or.inr (Or.inl (nI_le (by omega) hj))
theorem pk_le {x y : Int32} {A B : Prop} (a b : Nat) (f : a ≤ b → A) (g : b < a → B) (hx : x = nI a := by rfl) (hy : y = nI b := by rfl) (ha : a < 2 ^ 31 := by omega) (hb : b < 2 ^ 31 := by omega) : (x ≤ y → A) ∧ (¬ x ≤ y → B) := by
  subst hx hy
  rw [nI_leI ha hb]
  exact ⟨f, fun z => g (by omega)⟩
theorem pk_lt {x y : Int32} {A B : Prop} (a b : Nat) (f : a < b → A) (g : b ≤ a → B) (hx : x = nI a := by rfl) (hy : y = nI b := by rfl) (ha : a < 2 ^ 31 := by omega) (hb : b < 2 ^ 31 := by omega) : (x < y → A) ∧ (¬ x < y → B) := by
  subst hx hy
  rw [nI_ltI ha hb]
  exact ⟨f, fun z => g (by omega)⟩
theorem pk_eq {x y : Int32} {A B : Prop} (a b : Nat) (f : a = b → A) (g : a ≠ b → B) (hx : x = nI a := by rfl) (hy : y = nI b := by rfl) (ha : a < 2 ^ 31 := by omega) (hb : b < 2 ^ 31 := by omega) : (x = y → A) ∧ (¬ x = y → B) := by
  subst hx hy
  rw [nI_eq ha hb]
  exact ⟨f, g⟩
theorem pk_in {x : Int32} (n N : Nat) (h : n < N) (hx : x = nI n := by rfl) (hN : N < 2 ^ 31 := by omega) : vp_in x N := by
  subst hx
  exact vp_in_nI h hN
theorem pk_cl {x : Int32} (n : Nat) (hx : x = nI n := by rfl) (h : n < 2 ^ 31 := by omega) : x.toNatClampNeg = n := by
  subst hx
  exact nI_clamp h
theorem pk_tn {n : Nat} (h : n < 2 ^ 32) : (nI n).toBitVec.toNat = n := Nat.mod_eq_of_lt h
theorem nx_and (a b : Nat) : nI a &&& nI b = nI (a &&& b) := by
  apply Int32.toBitVec_inj.1
  show BitVec.ofNat 32 a &&& BitVec.ofNat 32 b = BitVec.ofNat 32 (a &&& b)
  apply BitVec.eq_of_getLsbD_eq
  intro i hi
  simp [hi]
def fg_bt (a v : Nat) : Nat := a / 2 ^ v % 2
theorem fg_bt2 (a v : Nat) : fg_bt a v < 2 := Nat.mod_lt _ (by decide)
theorem fg_bt01 (a v : Nat) : fg_bt a v = 0 ∨ fg_bt a v = 1 := by have := fg_bt2 a v; omega
theorem fg_n1 : nI 1 = 1 := rfl
theorem fg_t1 : ∀ a, a < 128 → ∀ v, v < 7 → (nI a >>> (nI v &&& 31)) &&& 1 = nI (fg_bt a v) := by decide +kernel
theorem fg_t2 : ∀ i, i < 3 → ∀ w, w < 2 ^ i → ∀ b, b < 2 → nI w ||| (nI b <<< (nI i &&& 31)) = nI (w + 2 ^ i * b) := by decide +kernel
def fg_cl (p v : Nat) : Nat := p &&& (127 - 2 ^ v)
def fg_st (p v b : Nat) : Nat := fg_cl p v + b * 2 ^ v
theorem fg_t3 : ∀ p, p < 128 → ∀ v, v < 7 → nI p &&& (((1 : Int32) <<< (nI v &&& 31)) ^^^ (-1)) = nI (fg_cl p v) := by decide +kernel
theorem fg_t4 : ∀ p, p < 128 → ∀ v, v < 7 → ∀ b, b < 2 → nI (fg_cl p v) ||| (nI b <<< (nI v &&& 31)) = nI (fg_st p v b) ∧ fg_st p v b < 128 := by decide +kernel
theorem fg_t4b : ∀ p, p < 128 → ∀ v, v < 7 → ∀ b, b < 2 → ∀ w, w < 7 → fg_bt (fg_st p v b) w = if w = v then b else fg_bt p w := by decide +kernel
theorem fg_t5 : ∀ p, p < 128 → ∀ v, v < 7 → ((nI p &&& ((1 : Int32) <<< (nI v &&& 31))) = 0 ↔ fg_bt p v = 0) := by decide +kernel
theorem fg_t7 : ∀ a, a < 128 → ∀ v, v < 7 → ((nI a &&& ((1 : Int32) <<< (nI v &&& 31))) = ((1 : Int32) <<< (nI v &&& 31)) ↔ fg_bt a v = 1) := by decide +kernel
theorem fg_t8 : ∀ a, a < 128 → ∀ v, v < 7 → ∀ w, w < 7 → ((nI a &&& (((1 : Int32) <<< (nI v &&& 31)) ||| ((1 : Int32) <<< (nI w &&& 31)))) = (((1 : Int32) <<< (nI v &&& 31)) ||| ((1 : Int32) <<< (nI w &&& 31))) ↔ fg_bt a v = 1 ∧ fg_bt a w = 1) := by decide +kernel
theorem fg_t9 : ∀ a, a < 128 → ∀ v, v < 7 → ∀ w, w < 7 → ((nI a &&& (((1 : Int32) <<< (nI v &&& 31)) ||| ((1 : Int32) <<< (nI w &&& 31)))) = 0 ↔ fg_bt a v = 0 ∧ fg_bt a w = 0) := by decide +kernel
theorem fg_t10 : ∀ s, s < 4 → (1 : Int32) <<< (nI s &&& 31) = nI (2 ^ s) := by decide +kernel
theorem fg_cl0 (p v : Nat) : fg_st p v 0 = fg_cl p v := by unfold fg_st; omega
/-- the masks against the bits -/
theorem fg_and {a p q : Nat} (ha : a < 128) (hp : p < 128) (hq : q < 128) : a &&& p = q ↔ ∀ v, v < 7 → fg_bt a v * fg_bt p v = fg_bt q v := by
  have tb : ∀ x v, Nat.testBit x v = decide (fg_bt x v = 1) := fun x v => Nat.testBit_eq_decide_div_mod_eq
  have big : ∀ x v, x < 128 → 7 ≤ v → Nat.testBit x v = false := fun x v hx hv =>
    Nat.testBit_lt_two_pow (Nat.lt_of_lt_of_le hx (Nat.pow_le_pow_right (n := 2) (by decide) hv))
  constructor
  · intro h v _
    have e : Nat.testBit (a &&& p) v = Nat.testBit q v := by rw [h]
    rw [Nat.testBit_and, tb, tb, tb] at e
    rcases fg_bt01 a v with h1 | h1 <;> rcases fg_bt01 p v with h2 | h2 <;> rcases fg_bt01 q v with h3 | h3 <;> rw [h1, h2, h3] at e ⊢ <;> revert e <;> decide
  · intro h
    apply Nat.eq_of_testBit_eq
    intro v
    by_cases hv : v < 7
    · have e := h v hv
      rw [Nat.testBit_and, tb, tb, tb]
      rcases fg_bt01 a v with h1 | h1 <;> rcases fg_bt01 p v with h2 | h2 <;> rcases fg_bt01 q v with h3 | h3 <;> rw [h1, h2, h3] at e ⊢ <;> revert e <;> decide
    · rw [Nat.testBit_and, big a v ha (by omega), big q v hq (by omega)]
      rfl
def fg_Mk (p q : Nat) (F : Nat → Int32) : Prop := p < 128 ∧ q < 128 ∧ ∀ v, v < 7 → (F v = -1 ∧ fg_bt p v = 0 ∧ fg_bt q v = 0) ∨ (∃ b, b < 2 ∧ F v = nI b ∧ fg_bt p v = 1 ∧ fg_bt q v = b)
def fg_F6 (s a0 a1 a2 b0 b1 b2 : Int32) : Prop := ∃ x, x < 7 ∧ a0 = nI x ∧ b0 = nI x ∧ ((s = nI 1 ∧ b1 = -1 ∧ b2 = -1) ∨ (∃ y, y < 7 ∧ a1 = nI y ∧ b1 = nI y ∧ ((s = nI 2 ∧ b2 = -1) ∨ ∃ z, z < 7 ∧ a2 = nI z ∧ b2 = nI z ∧ s = nI 3)))
def fg_Fac (A S B : Nat → Int32) (f : Nat) : Prop := fg_F6 (S f) (A (f * 3)) (A (f * 3 + 1)) (A (f * 3 + 2)) (B (f * 3)) (B (f * 3 + 1)) (B (f * 3 + 2))
def fg_Wt (W : Nat → Int32) : Prop := ∀ i, ∃ w, w ≤ 9 ∧ W i = nI w
/-- the relation: the same count, the same weights; the factors' variables and the evidence agree -/
def i_Rel (_ : Nat) (u : SX) (v : SY) : Prop := ∃ (m p q : Nat) (A S W B F : Nat → Int32), u = (nI m, nI p, nI q, A, S, W) ∧ v = (nI m, B, W, F) ∧ m ≤ 7 ∧ fg_Mk p q F ∧ (∀ f, f < m → fg_Fac A S B f) ∧ fg_Wt W
theorem i_up {k : Nat} {u : SX} {v : SY} (h : i_Rel k u v) : i_Rel (k + 4) u v := h
