section
theorem pk_us {f : Nat → Int32} {k : Nat} {x : Int32} : upd f k x k = x := if_pos rfl
theorem pk_un {f : Nat → Int32} {k j : Nat} {x : Int32} (h : j ≠ k) : upd f k x j = f j := if_neg h
theorem pk_mul (a b : Nat) : nI a * nI b = nI (a * b) := (Int32.ofNat_mul a b).symm
theorem pk_ix (x : Int32) {n : Nat} (hn : n < 2 ^ 31) : x < 0 ∨ nI n ≤ x ∨ ∃ j : Nat, j < n ∧ x = nI j := by
  by_cases h : x < 0
  · exact Or.inl h
  · obtain ⟨j, hj, rfl⟩ := nI_of h
    by_cases h2 : j < n
    · exact Or.inr (Or.inr ⟨j, h2, rfl⟩)
    · exact Or.inr (Or.inl (nI_le (by omega) hj))
theorem pk_le {x y : Int32} {A B : Prop} (a b : Nat) (f : a ≤ b → A) (g : b < a → B) (hx : x = nI a := by rfl) (hy : y = nI b := by rfl) (ha : a < 2 ^ 31 := by omega) (hb : b < 2 ^ 31 := by omega) : (x ≤ y → A) ∧ (¬ x ≤ y → B) := by
  subst hx hy
  rw [nI_leI ha hb]
  exact ⟨f, fun z => g (by omega)⟩
theorem pk_lt {x y : Int32} {A B : Prop} (a b : Nat) (f : a < b → A) (g : b ≤ a → B) (hx : x = nI a := by rfl) (hy : y = nI b := by rfl) (ha : a < 2 ^ 31 := by omega) (hb : b < 2 ^ 31 := by omega) : (x < y → A) ∧ (¬ x < y → B) := by
  subst hx hy
  rw [nI_ltI ha hb]
  exact ⟨f, fun z => g (by omega)⟩
theorem pk_eq {x y : Int32} {A B : Prop} (a b : Nat) (f : a = b → A) (g : a ≠ b → B) (hx : x = nI a := by rfl) (hy : y = nI b := by rfl) (ha : a < 2 ^ 31 := by omega) (hb : b < 2 ^ 31 := by omega) : (x = y → A) ∧ (¬ x = y → B) := by
  subst hx hy
  rw [nI_eq ha hb]
  exact ⟨f, g⟩
theorem pk_in {x : Int32} (n N : Nat) (h : n < N) (hx : x = nI n := by rfl) (hN : N < 2 ^ 31 := by omega) : vp_in x N := by
  subst hx
  exact vp_in_nI h hN
theorem pk_cl {x : Int32} (n : Nat) (hx : x = nI n := by rfl) (h : n < 2 ^ 31 := by omega) : x.toNatClampNeg = n := by
  subst hx
  exact nI_clamp h
theorem pk_tn {n : Nat} (h : n < 2 ^ 32) : (nI n).toBitVec.toNat = n := Nat.mod_eq_of_lt h
theorem nx_and (a b : Nat) : nI a &&& nI b = nI (a &&& b) := by
  apply Int32.toBitVec_inj.1
  show BitVec.ofNat 32 a &&& BitVec.ofNat 32 b = BitVec.ofNat 32 (a &&& b)
  apply BitVec.eq_of_getLsbD_eq
  intro i hi
  simp [hi]
def fg_bt (a v : Nat) : Nat := a / 2 ^ v % 2
theorem fg_bt2 (a v : Nat) : fg_bt a v < 2 := Nat.mod_lt _ (by decide)
theorem fg_bt01 (a v : Nat) : fg_bt a v = 0 ∨ fg_bt a v = 1 := by have := fg_bt2 a v; omega
theorem fg_n1 : nI 1 = 1 := rfl
theorem fg_t1 : ∀ a, a < 128 → ∀ v, v < 7 → (nI a >>> (nI v &&& 31)) &&& 1 = nI (fg_bt a v) := by decide +kernel
theorem fg_t2 : ∀ i, i < 3 → ∀ w, w < 2 ^ i → ∀ b, b < 2 → nI w ||| (nI b <<< (nI i &&& 31)) = nI (w + 2 ^ i * b) := by decide +kernel
def fg_cl (p v : Nat) : Nat := p &&& (127 - 2 ^ v)
def fg_st (p v b : Nat) : Nat := fg_cl p v + b * 2 ^ v
theorem fg_t3 : ∀ p, p < 128 → ∀ v, v < 7 → nI p &&& (((1 : Int32) <<< (nI v &&& 31)) ^^^ (-1)) = nI (fg_cl p v) := by decide +kernel
theorem fg_t4 : ∀ p, p < 128 → ∀ v, v < 7 → ∀ b, b < 2 → nI (fg_cl p v) ||| (nI b <<< (nI v &&& 31)) = nI (fg_st p v b) ∧ fg_st p v b < 128 := by decide +kernel
theorem fg_t4b : ∀ p, p < 128 → ∀ v, v < 7 → ∀ b, b < 2 → ∀ w, w < 7 → fg_bt (fg_st p v b) w = if w = v then b else fg_bt p w := by decide +kernel
theorem fg_t5 : ∀ p, p < 128 → ∀ v, v < 7 → ((nI p &&& ((1 : Int32) <<< (nI v &&& 31))) = 0 ↔ fg_bt p v = 0) := by decide +kernel
theorem fg_t7 : ∀ a, a < 128 → ∀ v, v < 7 → ((nI a &&& ((1 : Int32) <<< (nI v &&& 31))) = ((1 : Int32) <<< (nI v &&& 31)) ↔ fg_bt a v = 1) := by decide +kernel
theorem fg_t8 : ∀ a, a < 128 → ∀ v, v < 7 → ∀ w, w < 7 → ((nI a &&& (((1 : Int32) <<< (nI v &&& 31)) ||| ((1 : Int32) <<< (nI w &&& 31)))) = (((1 : Int32) <<< (nI v &&& 31)) ||| ((1 : Int32) <<< (nI w &&& 31))) ↔ fg_bt a v = 1 ∧ fg_bt a w = 1) := by decide +kernel
theorem fg_t9 : ∀ a, a < 128 → ∀ v, v < 7 → ∀ w, w < 7 → ((nI a &&& (((1 : Int32) <<< (nI v &&& 31)) ||| ((1 : Int32) <<< (nI w &&& 31)))) = 0 ↔ fg_bt a v = 0 ∧ fg_bt a w = 0) := by decide +kernel
theorem fg_t10 : ∀ s, s < 4 → (1 : Int32) <<< (nI s &&& 31) = nI (2 ^ s) := by decide +kernel
theorem fg_cl0 (p v : Nat) : fg_st p v 0 = fg_cl p v := by unfold fg_st; omega
/-- the masks against the bits -/
theorem fg_and {a p q : Nat} (ha : a < 128) (hp : p < 128) (hq : q < 128) : a &&& p = q ↔ ∀ v, v < 7 → fg_bt a v * fg_bt p v = fg_bt q v := by
  have tb : ∀ x v, Nat.testBit x v = decide (fg_bt x v = 1) := fun x v => Nat.testBit_eq_decide_div_mod_eq
  have big : ∀ x v, x < 128 → 7 ≤ v → Nat.testBit x v = false := fun x v hx hv =>
    Nat.testBit_lt_two_pow (Nat.lt_of_lt_of_le hx (Nat.pow_le_pow_right (n := 2) (by decide) hv))
  constructor
  · intro h v _
    have e : Nat.testBit (a &&& p) v = Nat.testBit q v := by rw [h]
    rw [Nat.testBit_and, tb, tb, tb] at e
    rcases fg_bt01 a v with h1 | h1 <;> rcases fg_bt01 p v with h2 | h2 <;> rcases fg_bt01 q v with h3 | h3 <;> rw [h1, h2, h3] at e ⊢ <;> revert e <;> decide
  · intro h
    apply Nat.eq_of_testBit_eq
    intro v
    by_cases hv : v < 7
    · have e := h v hv
      rw [Nat.testBit_and, tb, tb, tb]
      rcases fg_bt01 a v with h1 | h1 <;> rcases fg_bt01 p v with h2 | h2 <;> rcases fg_bt01 q v with h3 | h3 <;> rw [h1, h2, h3] at e ⊢ <;> revert e <;> decide
    · rw [Nat.testBit_and, big a v ha (by omega), big q v hq (by omega)]
      rfl
def fg_Mk (p q : Nat) (F : Nat → Int32) : Prop := p < 128 ∧ q < 128 ∧ ∀ v, v < 7 → (F v = -1 ∧ fg_bt p v = 0 ∧ fg_bt q v = 0) ∨ (∃ b, b < 2 ∧ F v = nI b ∧ fg_bt p v = 1 ∧ fg_bt q v = b)
def fg_F6 (s a0 a1 a2 b0 b1 b2 : Int32) : Prop := ∃ x, x < 7 ∧ a0 = nI x ∧ b0 = nI x ∧ ((s = nI 1 ∧ b1 = -1 ∧ b2 = -1) ∨ (∃ y, y < 7 ∧ a1 = nI y ∧ b1 = nI y ∧ ((s = nI 2 ∧ b2 = -1) ∨ ∃ z, z < 7 ∧ a2 = nI z ∧ b2 = nI z ∧ s = nI 3)))
def fg_Fac (A S B : Nat → Int32) (f : Nat) : Prop := fg_F6 (S f) (A (f * 3)) (A (f * 3 + 1)) (A (f * 3 + 2)) (B (f * 3)) (B (f * 3 + 1)) (B (f * 3 + 2))
def fg_Wt (W : Nat → Int32) : Prop := ∀ i, ∃ w, w ≤ 9 ∧ W i = nI w
/-- the relation: the same count, the same weights; the factors' variables and the evidence agree -/
def i_Rel (_ : Nat) (u : SX) (v : SY) : Prop := ∃ (m p q : Nat) (A S W B F : Nat → Int32), u = (nI m, nI p, nI q, A, S, W) ∧ v = (nI m, B, W, F) ∧ m ≤ 7 ∧ fg_Mk p q F ∧ (∀ f, f < m → fg_Fac A S B f) ∧ fg_Wt W
theorem i_up {k : Nat} {u : SX} {v : SY} (h : i_Rel k u v) : i_Rel (k + 4) u v := h
end
section
section
variable (m p q : Nat) (A S W B F : Nat → Int32)
theorem fg_m3 (f : Nat) : nI f * 3 = nI (f * 3) := pk_mul f 3
theorem fg_m8 (f : Nat) : nI f * 8 = nI (f * 8) := pk_mul f 8
/-- one turn of the loop of wayOf -/
theorem fg_ws (post : Int32 → Prop) {f a i w v s n : Nat} (hf : f < 7) (ha : a < 128) (hi : i < 3) (hw : w < 2 ^ i) (hv : v < 7) (hs : i < s) (hs3 : s ≤ 3) (hA : A (f * 3 + i) = nI v)
    (h : wX_wayOf_18 post (nI a) (nI (f * 3)) (nI s) (nI m) (nI p) (nI q) A S W n (nI (w + 2 ^ i * fg_bt a v)) (nI (i + 1))) :
    wX_wayOf_18 post (nI a) (nI (f * 3)) (nI s) (nI m) (nI p) (nI q) A S W (n + 1) (nI w) (nI i) := by
  have e : nI (f * 3) + nI i = nI (f * 3 + i) := nI_add _ _
  refine br_f (nI_ge hs (by omega)) ⟨?_, ?_⟩
  · rw [e]; exact vp_in_nI (by omega) (by omega)
  · rw [e, nI_clamp (by omega), hA]
    refine nm_r (fg_t1 a ha v hv) (nm_r (fg_t2 i hi w hw _ (fg_bt2 a v)) (nm_r (nI_1 i) h))
theorem fg_we (post : Int32 → Prop) {f a i s n : Nat} {x : Int32} (hs : s ≤ i) (hi : i ≤ 3) (h : post x) :
    wX_wayOf_18 post (nI a) (nI (f * 3)) (nI s) (nI m) (nI p) (nI q) A S W (n + 1) x (nI i) :=
  br_t (nI_le hs (by omega)) h
/-- the value of a variable, as the reference reads it -/
theorem fg_val (post : Int32 → Prop) {a v : Nat} (ha : a < 128) (hv : v < 7) (h : post (nI (fg_bt a v))) : wpY_value post (nI m, B, W, F) (nI a) (nI v) := by
  refine br_t (nI_pos' (by omega)) ?_
  rw [fg_t1 a ha v hv]; exact h
theorem fg_valn (post : Int32 → Prop) {a : Nat} (h : post 0) : wpY_value post (nI m, B, W, F) (nI a) (-1) :=
  br_f (by decide) h
/-- a factor's way, both sides -/
theorem fg_way {f a : Nat} (hf : f < 7) (ha : a < 128) (H : fg_Fac A S B f) : ∃ b0 b1 b2 : Nat, b0 < 2 ∧ b1 < 2 ∧ b2 < 2 ∧
    (∀ post : Int32 → Prop, post (nI (b0 + 2 * b1 + 4 * b2)) → wpX_wayOf post (nI m, nI p, nI q, A, S, W) (nI f) (nI a)) ∧
    (∀ post : Int32 → Prop, post (nI b0) → wpY_value post (nI m, B, W, F) (nI a) (B (f * 3))) ∧
    (∀ post : Int32 → Prop, post (nI b1) → wpY_value post (nI m, B, W, F) (nI a) (B (f * 3 + 1))) ∧
    (∀ post : Int32 → Prop, post (nI b2) → wpY_value post (nI m, B, W, F) (nI a) (B (f * 3 + 2))) := by
  have hin : vp_in (nI f) 7 := vp_in_nI hf (by omega)
  have hc : (nI f).toNatClampNeg = f := nI_clamp (by omega)
  have hS : ∀ {t : Nat}, t < 4 → S f = nI t → S (nI f).toNatClampNeg = nI t := fun _ e => by rw [hc]; exact e
  obtain ⟨x, hx, a0, b0, h⟩ := H
  have h0 : ∀ post : Int32 → Prop, post (nI (fg_bt a x)) → wpY_value post (nI m, B, W, F) (nI a) (B (f * 3)) := fun post hp => by rw [b0]; exact fg_val m W B F post ha hx hp
  have hm : ∀ {z : Int32}, z = -1 → ∀ post : Int32 → Prop, post (nI 0) → wpY_value post (nI m, B, W, F) (nI a) z := fun e post hp => by rw [e]; exact fg_valn m W B F post hp
  rcases h with ⟨s, b1, b2⟩ | ⟨y, hy, a1, b1, h⟩
  · refine ⟨fg_bt a x, 0, 0, fg_bt2 a x, by decide, by decide, fun post hp => ?_, h0, hm b1, hm b2⟩
    refine nm_r (fg_m3 f) ⟨hin, nm_r (hS (by decide) s) ⟨2, ?_⟩⟩
    refine fg_ws m p q A S W post (i := 0) (w := 0) hf ha (by decide) (by decide) hx (by decide) (by decide) a0 (fg_we m p q A S W post (by decide) (by decide) ?_)
    have e : 0 + 2 ^ 0 * fg_bt a x = fg_bt a x + 2 * 0 + 4 * 0 := by omega
    rw [e]; exact hp
  · have h1 : ∀ post : Int32 → Prop, post (nI (fg_bt a y)) → wpY_value post (nI m, B, W, F) (nI a) (B (f * 3 + 1)) := fun post hp => by rw [b1]; exact fg_val m W B F post ha hy hp
    have l0 := fg_bt2 a x
    have l1 := fg_bt2 a y
    rcases h with ⟨s, b2⟩ | ⟨z, hz, a2, b2, s⟩
    · refine ⟨fg_bt a x, fg_bt a y, 0, l0, l1, by decide, fun post hp => ?_, h0, h1, hm b2⟩
      refine nm_r (fg_m3 f) ⟨hin, nm_r (hS (by decide) s) ⟨3, ?_⟩⟩
      refine fg_ws m p q A S W post (i := 0) (w := 0) hf ha (by decide) (by decide) hx (by decide) (by decide) a0 ?_
      refine fg_ws m p q A S W post (i := 1) hf ha (by decide) (by omega) hy (by decide) (by decide) a1 (fg_we m p q A S W post (by decide) (by decide) ?_)
      have e : 0 + 2 ^ 0 * fg_bt a x + 2 ^ 1 * fg_bt a y = fg_bt a x + 2 * fg_bt a y + 4 * 0 := by omega
      rw [e]; exact hp
    · refine ⟨fg_bt a x, fg_bt a y, fg_bt a z, l0, l1, fg_bt2 a z, fun post hp => ?_, h0, h1, fun post hp => by rw [b2]; exact fg_val m W B F post ha hz hp⟩
      refine nm_r (fg_m3 f) ⟨hin, nm_r (hS (by decide) s) ⟨4, ?_⟩⟩
      refine fg_ws m p q A S W post (i := 0) (w := 0) hf ha (by decide) (by decide) hx (by decide) (by decide) a0 ?_
      refine fg_ws m p q A S W post (i := 1) hf ha (by decide) (by omega) hy (by decide) (by decide) a1 ?_
      refine fg_ws m p q A S W post (i := 2) hf ha (by decide) (by omega) hz (by decide) (by decide) a2 (fg_we m p q A S W post (by decide) (by decide) ?_)
      have e : 0 + 2 ^ 0 * fg_bt a x + 2 ^ 1 * fg_bt a y + 2 ^ 2 * fg_bt a z = fg_bt a x + 2 * fg_bt a y + 4 * fg_bt a z := by omega
      rw [e]; exact hp
theorem fg_wst {f b0 b1 b2 : Nat} : nI (f * 8) + nI b0 + 2 * nI b1 + 4 * nI b2 = nI (f * 8 + (b0 + 2 * b1 + 4 * b2)) := by
  have e1 : 2 * nI b1 = nI (2 * b1) := pk_mul 2 b1
  have e2 : 4 * nI b2 = nI (4 * b2) := pk_mul 4 b2
  rw [e1, e2, nI_add, nI_add, nI_add]
  congr 1; omega
/-- the product over the factors, both sides -/
theorem fg_prod {a : Nat} (ha : a < 128) (hm : m ≤ 7) (H : ∀ f, f < m → fg_Fac A S B f) (hW : fg_Wt W) : ∀ d j acc : Nat, j + d = m → acc ≤ 9 ^ j → ∃ r : Nat, r ≤ 9 ^ m ∧
    (∀ post : Int64 → Prop, post (lN r) → wX_worth_5 post (nI a) (nI m) (nI p) (nI q) A S W (d + 1) (lN acc) (nI j)) ∧
    (∀ post : Int64 → Prop, post (lN r) → wY_worth_15 post (nI a) (nI m) B W F (d + 1) (lN acc) (nI j)) := by
  intro d
  induction d with
  | zero =>
    intro j acc hj hacc
    have hjm : j = m := by omega
    subst hjm
    have h : nI j ≤ nI j := nI_le (Nat.le_refl j) (by omega)
    exact ⟨acc, hacc, fun _ hp => br_t h hp, fun _ hp => br_t h hp⟩
  | succ d ih =>
    intro j acc hj hacc
    have h : ¬ nI m ≤ nI j := nI_ge (by omega) (by omega)
    have hj7 : j < 7 := by omega
    obtain ⟨b0, b1, b2, l0, l1, l2, hX, hY0, hY1, hY2⟩ := fg_way m p q A S W B F hj7 ha (H j (by omega))
    obtain ⟨w, hw, eW⟩ := hW (j * 8 + (b0 + 2 * b1 + 4 * b2))
    have hacc' : acc * w ≤ 9 ^ (j + 1) := by rw [Nat.pow_succ]; exact Nat.mul_le_mul hacc hw
    obtain ⟨r, hr, rX, rY⟩ := ih (j + 1) (acc * w) (by omega) hacc'
    have eX : nI j * 8 + nI (b0 + 2 * b1 + 4 * b2) = nI (j * 8 + (b0 + 2 * b1 + 4 * b2)) := by rw [fg_m8, nI_add]
    have eY : nI j * 8 + nI b0 + 2 * nI b1 + 4 * nI b2 = nI (j * 8 + (b0 + 2 * b1 + 4 * b2)) := by rw [fg_m8]; exact fg_wst
    have hin : vp_in (nI (j * 8 + (b0 + 2 * b1 + 4 * b2))) 56 := vp_in_nI (by omega) (by omega)
    have ev : lN acc * (W (nI (j * 8 + (b0 + 2 * b1 + 4 * b2))).toNatClampNeg).toInt64 = lN (acc * w) := by
      rw [nI_clamp (by omega), eW, nI_l (by omega), lN_mul]
    have e3 : nI j * 3 = nI (j * 3) := fg_m3 j
    refine ⟨r, hr, fun post hp => br_f h (hX _ ?_), fun post hp => br_f h ⟨?_, ?_⟩⟩
    · rw [eX]
      exact ⟨hin, nm_r ev (nm_r (nI_1 j) (rX post hp))⟩
    · rw [e3]; exact vp_in_nI (by omega) (by omega)
    · rw [e3, nI_clamp (n := j * 3) (by omega)]
      have e31 : nI (j * 3) + 1 = nI (j * 3 + 1) := nI_1 _
      have e32 : nI (j * 3) + 2 = nI (j * 3 + 2) := nI_add _ 2
      rw [e31, e32, nI_clamp (n := j * 3 + 1) (by omega), nI_clamp (n := j * 3 + 2) (by omega)]
      refine hY0 _ ⟨vp_in_nI (n := j * 3 + 1) (by omega) (by omega), ?_⟩
      refine hY1 _ ⟨vp_in_nI (n := j * 3 + 2) (by omega) (by omega), ?_⟩
      refine hY2 _ ?_
      rw [eY]
      exact ⟨hin, nm_r ev (nm_r (nI_1 j) (rY post hp))⟩
/-- the reference's walk over the evidence -/
theorem fg_okv {v a : Nat} (M : fg_Mk p q F) (ha : a < 128) (hv : v < 7) : (F v < 0 ∨ (¬ F v < 0 ∧ F v = nI (fg_bt a v))) ↔ fg_bt a v * fg_bt p v = fg_bt q v := by
  have l := fg_bt01 a v
  rcases M.2.2 v hv with ⟨f, hp, hq⟩ | ⟨b, hb, f, hp, hq⟩
  · rw [hp, hq, f]; exact ⟨fun _ => by omega, fun _ => Or.inl (by decide)⟩
  · rw [hp, hq, f, nI_eq (by omega) (by omega), Nat.mul_one]
    have h0 : ¬ nI b < 0 := nI_pos (by omega)
    exact ⟨fun z => z.elim (fun z => absurd z h0) (fun z => z.2.symm), fun z => Or.inr ⟨h0, z.symm⟩⟩
theorem fg_alY {a : Nat} (ha : a < 128) (M : fg_Mk p q F) : ∀ d j : Nat, j + d = 7 → (∀ v, v < j → fg_bt a v * fg_bt p v = fg_bt q v) →
    (∀ post : Int32 → Prop, (a &&& p = q → post 1) → (¬ a &&& p = q → post 0) → wY_allowed_2 post (nI a) (nI m) B W F (d + 1) (nI j)) := by
  intro d
  induction d with
  | zero =>
    intro j hj hall post h1 h0
    refine br_t (nI_le (a := 7) (b := j) (by omega) (by omega)) (h1 ((fg_and ha M.1 M.2.1).mpr (fun v hv => hall v (by omega))))
  | succ d ih =>
    intro j hj hall post h1 h0
    have hj7 : j < 7 := by omega
    have hin : vp_in (nI j) 7 := vp_in_nI hj7 (by omega)
    have hc : (nI j).toNatClampNeg = j := nI_clamp (by omega)
    have go : fg_bt a j * fg_bt p j = fg_bt q j → wY_allowed_2 post (nI a) (nI m) B W F (d + 1) (nI (j + 1)) := fun z =>
      ih (j + 1) (by omega) (lt_s hall z) post h1 h0
    refine br_f (nI_ge (b := 7) hj7 (by decide)) ⟨hin, ?_⟩
    rw [hc]
    refine br_c (fun z => nm_r (nI_1 j) (go ((fg_okv p q F M ha hj7).mp (Or.inl z)))) (fun z => ⟨hin, ?_⟩)
    rw [fg_t1 a ha j hj7]
    refine br_c (fun e => nm_r (nI_1 j) (go ((fg_okv p q F M ha hj7).mp (Or.inr ⟨z, e⟩)))) (fun e => h0 (fun t => ?_))
    exact ((fg_okv p q F M ha hj7).mpr ((fg_and ha M.1 M.2.1).mp t j hj7)).elim z (fun t => e t.2)
end
/-- what the loops over the assignments need of the two states -/
def fg_If (u : SX) (v : SY) (al : Nat → Bool) (wo : Nat → Nat) : Prop := ∀ a, a < 128 →
  (∀ post : Int32 → Prop, al a = true → post 1 → wpX_isAllowed post u (nI a)) ∧
  (∀ post : Int32 → Prop, al a = false → post 0 → wpX_isAllowed post u (nI a)) ∧
  (∀ post : Int64 → Prop, post (lN (wo a)) → wpX_worth post u (nI a)) ∧
  (∀ post : Int32 → Prop, al a = true → post 1 → wpY_allowed post v (nI a)) ∧
  (∀ post : Int32 → Prop, al a = false → post 0 → wpY_allowed post v (nI a)) ∧
  (∀ post : Int64 → Prop, al a = true → post (lN (wo a)) → wpY_worth post v (nI a)) ∧
  (∀ post : Int64 → Prop, al a = false → post (lN 0) → wpY_worth post v (nI a)) ∧
  wo a < 2 ^ 31
theorem fg_iface {k : Nat} {u : SX} {v : SY} (I : i_Rel k u v) : ∃ (al : Nat → Bool) (wo : Nat → Nat), fg_If u v al wo ∧ ∃ a, a < 128 ∧ al a = true := by
  obtain ⟨m, p, q, A, S, W, B, F, rfl, rfl, hm, M, H, hW⟩ := I
  have hr : ∀ a, a < 128 → ∃ r : Nat, r ≤ 9 ^ m ∧
    (∀ post : Int64 → Prop, post (lN r) → wX_worth_5 post (nI a) (nI m) (nI p) (nI q) A S W (m + 1) (lN 1) (nI 0)) ∧
    (∀ post : Int64 → Prop, post (lN r) → wY_worth_15 post (nI a) (nI m) B W F (m + 1) (lN 1) (nI 0)) :=
    fun a ha => fg_prod m p q A S W B F ha hm H hW m 0 1 (by omega) (by decide)
  have hr' : ∀ a, ∃ r : Nat, a < 128 → r ≤ 9 ^ m ∧
    (∀ post : Int64 → Prop, post (lN r) → wX_worth_5 post (nI a) (nI m) (nI p) (nI q) A S W (m + 1) (lN 1) (nI 0)) ∧
    (∀ post : Int64 → Prop, post (lN r) → wY_worth_15 post (nI a) (nI m) B W F (m + 1) (lN 1) (nI 0)) := fun a => by
    by_cases ha : a < 128
    · obtain ⟨r, h⟩ := hr a ha
      exact ⟨r, fun _ => h⟩
    · exact ⟨0, fun z => absurd z ha⟩
  have hal : ∀ a, a < 128 → (nI a &&& nI p = nI q ↔ a &&& p = q) := fun a ha => by
    have : a &&& p ≤ a := Nat.and_le_left
    rw [nx_and, nI_eq (by omega) (by have := M.2.1; omega)]
  refine ⟨fun a => decide (a &&& p = q), fun a => (hr' a).choose, fun a ha => ?_, q, M.2.1, ?_⟩
  · have hh := (hr' a).choose_spec ha
    have p9 : 9 ^ m ≤ 9 ^ 7 := Nat.pow_le_pow_right (by decide) hm
    have aY : ∀ post : Int32 → Prop, (a &&& p = q → post 1) → (¬ a &&& p = q → post 0) → wpY_allowed post (nI m, B, W, F) (nI a) :=
      fun post h1 h0 => ⟨8, fg_alY m p q W B F ha M 7 0 rfl (fun v hv => absurd hv (by omega)) post h1 h0⟩
    refine ⟨fun post h hp => br_t ((hal a ha).mpr (of_decide_eq_true h)) hp, fun post h hp => br_f (fun z => of_decide_eq_false h ((hal a ha).mp z)) hp,
      fun post hp => ⟨m + 1, hh.2.1 post hp⟩, fun post h hp => aY post (fun _ => hp) (fun z => absurd (of_decide_eq_true h) z),
      fun post h hp => aY post (fun z => absurd z (of_decide_eq_false h)) (fun _ => hp), fun post h hp => ?_, fun post h hp => ?_, ?_⟩
    · exact aY _ (fun _ => br_f (by decide) ⟨m + 1, hh.2.2 post hp⟩) (fun z => absurd (of_decide_eq_true h) z)
    · exact aY _ (fun z => absurd z (of_decide_eq_false h)) (fun _ => br_t rfl hp)
    · exact Nat.lt_of_le_of_lt (Nat.le_trans hh.1 p9) (by decide)
  · refine decide_eq_true ((fg_and M.2.1 M.1 M.2.1).mpr fun v hv => ?_)
    rcases M.2.2 v hv with ⟨_, hp, hq⟩ | ⟨b, hb, _, hp, hq⟩
    · rw [hp, hq]
    · rw [hp, hq, Nat.mul_one]
end
section
def fg_sm (g : Nat → Nat) : Nat → Nat
  | 0 => 0
  | n + 1 => fg_sm g n + g n
theorem fg_sm_c {g h : Nat → Nat} : ∀ n : Nat, (∀ a, a < n → g a = h a) → fg_sm g n = fg_sm h n := by
  intro n
  induction n with
  | zero => intro _; rfl
  | succ n ih =>
    intro H
    show fg_sm g n + g n = fg_sm h n + h n
    rw [ih (fun a ha => H a (by omega)), H n (by omega)]
theorem fg_sm_a (g h : Nat → Nat) : ∀ n : Nat, fg_sm g n + fg_sm h n = fg_sm (fun a => g a + h a) n := by
  intro n
  induction n with
  | zero => rfl
  | succ n ih =>
    show fg_sm g n + g n + (fg_sm h n + h n) = fg_sm (fun a => g a + h a) n + (g n + h n)
    omega
/-- a loop over the 128 assignments that adds g -/
theorem fg_loop {σ : Type} (W : Nat → σ → Int32 → Prop) (st : Nat → σ) (hx : ∀ n, W (n + 1) (st 128) (nI 128))
    (hs : ∀ n i, i < 128 → W n (st (i + 1)) (nI (i + 1)) → W (n + 1) (st i) (nI i)) : ∃ n, W n (st 0) (nI 0) := by
  have key : ∀ d i, i + d = 128 → W (d + 1) (st i) (nI i) := by
    intro d
    induction d with
    | zero => intro i hi; have e : i = 128 := by omega
              subst e; exact hx 0
    | succ d ih => intro i hi; exact hs (d + 1) i (by omega) (ih (i + 1) (by omega))
  exact ⟨129, key 128 0 rfl⟩
theorem fg_128 : (128 : Int32) ≤ nI 128 := nI_le (a := 128) (Nat.le_refl _) (by decide)
theorem fg_n128 {i : Nat} (h : i < 128) : ¬ (128 : Int32) ≤ nI i := nI_ge (b := 128) h (by decide)
section
variable {cx fx vx : Int32} {A S W : Nat → Int32} {cy : Int32} {B Wy F : Nat → Int32} {al : Nat → Bool} {wo : Nat → Nat} (I : fg_If (cx, fx, vx, A, S, W) (cy, B, Wy, F) al wo)
def fg_gx (al : Nat → Bool) (wo : Nat → Nat) (mask values : Int32) (i : Nat) : Nat := if al i = true ∧ nI i &&& mask = values then wo i else 0
def fg_gy (al : Nat → Bool) (wo : Nat → Nat) (i : Nat) : Nat := if al i = true then wo i else 0
theorem fg_yw (I : fg_If (cx, fx, vx, A, S, W) (cy, B, Wy, F) al wo) {i : Nat} (hi : i < 128) (post : Int64 → Prop) (h : post (lN (fg_gy al wo i))) : wpY_worth post (cy, B, Wy, F) (nI i) := by
  unfold fg_gy at h
  cases e : al i with
  | true => rw [if_pos e] at h; exact (I i hi).2.2.2.2.2.1 post e h
  | false => rw [if_neg (by rw [e]; decide)] at h; exact (I i hi).2.2.2.2.2.2.1 post e h
theorem fg_sumX (I : fg_If (cx, fx, vx, A, S, W) (cy, B, Wy, F) al wo) (mask values : Int32) (post : Int64 → Prop) (h : post (lN (fg_sm (fg_gx al wo mask values) 128))) : wpX_sumWhere post (cx, fx, vx, A, S, W) mask values := by
  refine fg_loop (fun n s x => wX_sumWhere_5 post mask values cx fx vx A S W n s x) (fun i => lN (fg_sm (fg_gx al wo mask values) i)) (fun n => br_t fg_128 h) (fun n i hi ih => ?_)
  have J := I i hi
  have e1 : nI i + 1 = nI (i + 1) := nI_1 i
  cases e : al i with
  | false =>
    have e0 : fg_sm (fg_gx al wo mask values) (i + 1) = fg_sm (fg_gx al wo mask values) i := by
      show _ + fg_gx al wo mask values i = _
      unfold fg_gx; rw [if_neg (fun z => by rw [e] at z; exact absurd z.1 (by decide))]; rfl
    rw [e0] at ih
    exact br_f (fg_n128 hi) (J.2.1 _ e (br_t rfl (nm_r e1 ih)))
  | true =>
    by_cases hc : nI i &&& mask = values
    · have e0 : lN (fg_sm (fg_gx al wo mask values) i) + lN (wo i) = lN (fg_sm (fg_gx al wo mask values) (i + 1)) := by
        rw [lN_add]
        show _ = lN (_ + fg_gx al wo mask values i)
        unfold fg_gx; rw [if_pos ⟨e, hc⟩]
      exact br_f (fg_n128 hi) (J.1 _ e (br_f (by decide) (br_t hc (J.2.2.1 _ (nm_r e0 (nm_r e1 ih))))))
    · have e0 : fg_sm (fg_gx al wo mask values) (i + 1) = fg_sm (fg_gx al wo mask values) i := by
        show _ + fg_gx al wo mask values i = _
        unfold fg_gx; rw [if_neg (fun z => hc z.2)]; rfl
      rw [e0] at ih
      exact br_f (fg_n128 hi) (J.1 _ e (br_f (by decide) (br_f hc (nm_r e1 ih))))
theorem fg_totY (I : fg_If (cx, fx, vx, A, S, W) (cy, B, Wy, F) al wo) (post : Int64 → Prop) (h : post (lN (fg_sm (fg_gy al wo) 128))) : wpY_total post (cy, B, Wy, F) := by
  refine fg_loop (fun n s x => wY_total_4 post cy B Wy F n s x) (fun i => lN (fg_sm (fg_gy al wo) i)) (fun n => br_t fg_128 h) (fun n i hi ih => ?_)
  have e0 : lN (fg_sm (fg_gy al wo) i) + lN (fg_gy al wo i) = lN (fg_sm (fg_gy al wo) (i + 1)) := lN_add _ _
  exact br_f (fg_n128 hi) (fg_yw I hi _ (nm_r e0 (nm_r (nI_1 i) ih)))
def fg_gb (al : Nat → Bool) (wo : Nat → Nat) (a b : Nat) (i : Nat) : Nat := if fg_bt i a = 1 ∧ fg_bt i b = 1 then fg_gy al wo i else 0
def fg_ga (al : Nat → Bool) (wo : Nat → Nat) (a b : Nat) (i : Nat) : Nat := if fg_bt i a = fg_bt i b then fg_gy al wo i else 0
theorem fg_vy (post : Int32 → Prop) {a v : Nat} (ha : a < 128) (hv : v < 7) (h : post (nI (fg_bt a v))) : wpY_value post (cy, B, Wy, F) (nI a) (nI v) := by
  refine br_t (nI_pos' (by omega)) ?_
  rw [fg_t1 a ha v hv]; exact h
theorem fg_bothY (I : fg_If (cx, fx, vx, A, S, W) (cy, B, Wy, F) al wo) {a b : Nat} (ha : a < 7) (hb : b < 7) (post : Int64 → Prop) (h : post (lN (fg_sm (fg_gb al wo a b) 128))) : wpY_both post (cy, B, Wy, F) (nI a) (nI b) := by
  refine fg_loop (fun n s x => wY_both_5 post (nI a) (nI b) cy B Wy F n s x) (fun i => lN (fg_sm (fg_gb al wo a b) i)) (fun n => br_t fg_128 h) (fun n i hi ih => ?_)
  have e1 : nI i + 1 = nI (i + 1) := nI_1 i
  have zero : ¬ (fg_bt i a = 1 ∧ fg_bt i b = 1) → wY_both_5 post (nI a) (nI b) cy B Wy F n (lN (fg_sm (fg_gb al wo a b) i)) (nI (i + 1)) := fun hn => by
    have e0 : fg_sm (fg_gb al wo a b) (i + 1) = fg_sm (fg_gb al wo a b) i := by
      show _ + fg_gb al wo a b i = _
      unfold fg_gb; rw [if_neg hn]; rfl
    rw [e0] at ih; exact ih
  refine br_f (fg_n128 hi) (fg_vy _ hi ha ?_)
  by_cases h1 : fg_bt i a = 1
  · refine br_t (by rw [h1]; rfl) (fg_vy _ hi hb ?_)
    by_cases h2 : fg_bt i b = 1
    · have e0 : lN (fg_sm (fg_gb al wo a b) i) + lN (fg_gy al wo i) = lN (fg_sm (fg_gb al wo a b) (i + 1)) := by
        rw [lN_add]
        show _ = lN (_ + fg_gb al wo a b i)
        unfold fg_gb; rw [if_pos ⟨h1, h2⟩]
      exact br_t (by rw [h2]; rfl) (fg_yw I hi _ (nm_r e0 (nm_r e1 ih)))
    · have h3 : fg_bt i b = 0 := by have := fg_bt01 i b; omega
      exact br_f (by rw [h3]; decide) (nm_r e1 (zero (fun z => h2 z.2)))
  · have h3 : fg_bt i a = 0 := by have := fg_bt01 i a; omega
    exact br_f (by rw [h3]; decide) (nm_r e1 (zero (fun z => h1 z.1)))
theorem fg_bad0 (post : Int32 → Prop) {a : Nat} (ha : a < 7) (h : post 0) : wpY_bad post (cy, B, Wy, F) (nI a) :=
  br_f (nI_pos (by omega)) (br_t (nI_le (b := 6) (by omega) (by decide)) h)
theorem fg_alikeY (I : fg_If (cx, fx, vx, A, S, W) (cy, B, Wy, F) al wo) {a b : Nat} (ha : a < 7) (hb : b < 7) (post : Int64 → Prop) (h : post (lN (fg_sm (fg_ga al wo a b) 128))) : wpY_alike post (cy, B, Wy, F) (nI a) (nI b) := by
  refine fg_loop (fun n s x => wY_alike_5 post (nI a) (nI b) cy B Wy F n s x) (fun i => lN (fg_sm (fg_ga al wo a b) i)) (fun n => br_t fg_128 h) (fun n i hi ih => ?_)
  have e1 : nI i + 1 = nI (i + 1) := nI_1 i
  have l1 := fg_bt2 i a
  have l2 := fg_bt2 i b
  refine br_f (fg_n128 hi) (fg_bad0 _ ha (br_t rfl (fg_bad0 _ hb (br_t rfl (fg_vy _ hi ha (fg_vy _ hi hb ?_))))))
  by_cases h1 : fg_bt i a = fg_bt i b
  · have e0 : lN (fg_sm (fg_ga al wo a b) i) + lN (fg_gy al wo i) = lN (fg_sm (fg_ga al wo a b) (i + 1)) := by
      rw [lN_add]
      show _ = lN (_ + fg_ga al wo a b i)
      unfold fg_ga; rw [if_pos h1]
    exact br_t (by rw [h1]) (fg_yw I hi _ (nm_r e0 (nm_r e1 ih)))
  · have e0 : fg_sm (fg_ga al wo a b) (i + 1) = fg_sm (fg_ga al wo a b) i := by
      show _ + fg_ga al wo a b i = _
      unfold fg_ga; rw [if_neg h1]; rfl
    rw [e0] at ih
    exact br_f (fun z => h1 ((nI_eq (by omega) (by omega)).mp z)) (nm_r e1 ih)
end
/-! the sums, side against side -/
theorem fg_eqT (al : Nat → Bool) (wo : Nat → Nat) : fg_sm (fg_gx al wo 0 0) 128 = fg_sm (fg_gy al wo) 128 := by
  refine fg_sm_c 128 (fun i hi => ?_)
  unfold fg_gx fg_gy
  have e : nI i &&& 0 = 0 := Int32.and_zero
  cases h : al i with
  | true => rw [if_pos ⟨rfl, e⟩, if_pos rfl]
  | false => rw [if_neg (fun z => absurd z.1 (by decide)), if_neg (by decide)]
theorem fg_eqB (al : Nat → Bool) (wo : Nat → Nat) {a b : Nat} {mask : Int32} (hm : ∀ i, i < 128 → (nI i &&& mask = mask ↔ fg_bt i a = 1 ∧ fg_bt i b = 1)) : fg_sm (fg_gx al wo mask mask) 128 = fg_sm (fg_gb al wo a b) 128 := by
  refine fg_sm_c 128 (fun i hi => ?_)
  unfold fg_gx fg_gb fg_gy
  by_cases h1 : nI i &&& mask = mask
  · rw [if_pos ((hm i hi).mp h1)]
    by_cases h : al i = true
    · rw [if_pos ⟨h, h1⟩, if_pos h]
    · rw [if_neg (fun z => h z.1), if_neg h]
  · rw [if_neg (fun z => h1 ((hm i hi).mpr z)), if_neg (fun z => h1 z.2)]
theorem fg_eqA (al : Nat → Bool) (wo : Nat → Nat) {a b : Nat} {mask : Int32} (hm : ∀ i, i < 128 → (nI i &&& mask = mask ↔ fg_bt i a = 1 ∧ fg_bt i b = 1)) (h0 : ∀ i, i < 128 → (nI i &&& mask = 0 ↔ fg_bt i a = 0 ∧ fg_bt i b = 0)) :
    fg_sm (fg_gx al wo mask 0) 128 + fg_sm (fg_gx al wo mask mask) 128 = fg_sm (fg_ga al wo a b) 128 := by
  rw [fg_sm_a]
  refine fg_sm_c 128 (fun i hi => ?_)
  show fg_gx al wo mask 0 i + fg_gx al wo mask mask i = _
  unfold fg_gx fg_ga fg_gy
  have l1 := fg_bt01 i a
  have l2 := fg_bt01 i b
  have H0 := h0 i hi
  have H1 := hm i hi
  by_cases h : al i = true
  · rw [if_pos h]
    by_cases z0 : nI i &&& mask = 0
    · have z1 : ¬ nI i &&& mask = mask := fun z => by have := H1.mp z; have := H0.mp z0; omega
      have := H0.mp z0
      rw [if_pos ⟨h, z0⟩, if_neg (fun t => z1 t.2), if_pos (by omega)]
      rfl
    · by_cases z1 : nI i &&& mask = mask
      · have := H1.mp z1
        rw [if_neg (fun t => z0 t.2), if_pos ⟨h, z1⟩, if_pos (by omega)]
        omega
      · have n0 : ¬ (fg_bt i a = 0 ∧ fg_bt i b = 0) := fun z => z0 (H0.mpr z)
        have n1 : ¬ (fg_bt i a = 1 ∧ fg_bt i b = 1) := fun z => z1 (H1.mpr z)
        rw [if_neg (fun t => z0 t.2), if_neg (fun t => z1 t.2), if_neg (by omega)]
  · rw [if_neg (fun t => h t.1), if_neg (fun t => h t.1), if_neg h]
    by_cases t : fg_bt i a = fg_bt i b
    · rw [if_pos t]
    · rw [if_neg t]
end
section
/-- j is the smallest allowed assignment of the greatest worth -/
def fg_Bj (al : Nat → Bool) (wo : Nat → Nat) (n j : Nat) : Prop := j < n ∧ al j = true ∧ (∀ a, a < n → al a = true → wo a ≤ wo j) ∧ (∀ a, a < j → al a = true → wo a < wo j)
theorem fg_Bex (al : Nat → Bool) (wo : Nat → Nat) : ∀ n : Nat, (∀ a, a < n → al a = false) ∨ ∃ j, fg_Bj al wo n j := by
  intro n
  induction n with
  | zero => exact Or.inl (fun a ha => absurd ha (by omega))
  | succ n ih =>
    cases e : al n with
    | false =>
      rcases ih with h | ⟨j, h1, h2, h3, h4⟩
      · exact Or.inl (lt_s h e)
      · exact Or.inr ⟨j, by omega, h2, lt_s h3 (fun z => by rw [e] at z; exact absurd z (by decide)), h4⟩
    | true =>
      rcases ih with h | ⟨j, h1, h2, h3, h4⟩
      · refine Or.inr ⟨n, by omega, e, lt_s (fun a ha z => ?_) (fun _ => Nat.le_refl _), fun a ha z => ?_⟩
        · rw [h a ha] at z; exact absurd z (by decide)
        · rw [h a ha] at z; exact absurd z (by decide)
      · by_cases hw : wo n ≤ wo j
        · exact Or.inr ⟨j, by omega, h2, lt_s h3 (fun _ => hw), h4⟩
        · refine Or.inr ⟨n, by omega, e, lt_s (fun a ha z => ?_) (fun _ => Nat.le_refl _), fun a ha z => ?_⟩
          · have := h3 a ha z; omega
          · have := h3 a ha z; omega
section
variable {cx fx vx : Int32} {A S W : Nat → Int32} {cy : Int32} {B Wy F : Nat → Int32} {al : Nat → Bool} {wo : Nat → Nat}
/-- what X has found before assignment i -/
def fg_Xb (wo : Nat → Nat) (j i : Nat) (x1 : Int32) (x2 : Int64) : Prop := (j < i → x1 = nI j ∧ x2 = lN (wo j)) ∧ (i ≤ j → x2 = -1 ∨ ∃ g, g < wo j ∧ x2 = lN g)
theorem fg_m1 {w : Nat} (h : w < 2 ^ 31) : ¬ lN w ≤ -1 := by
  rw [Int64.le_iff_toInt_le, lN_toInt h]
  have e : (-1 : Int64).toInt = -1 := by decide
  rw [e]; omega
theorem fg_bestX (I : fg_If (cx, fx, vx, A, S, W) (cy, B, Wy, F) al wo) {j : Nat} (hj : fg_Bj al wo 128 j) (post : Int32 → Prop) (h : post (nI j)) : wpX_bestAssignment post (cx, fx, vx, A, S, W) := by
  have key : ∀ d i x1 x2, i + d = 128 → fg_Xb wo j i x1 x2 → wX_bestAssignment_9 post cx fx vx A S W (d + 1) x1 x2 (nI i) := by
    intro d
    induction d with
    | zero =>
      intro i x1 x2 hi hx
      have e : i = 128 := by omega
      subst e
      have := (hx.1 hj.1).1
      rw [this]
      exact br_t fg_128 h
    | succ d ih =>
      intro i x1 x2 hi hx
      have hi8 : i < 128 := by omega
      have J := I i hi8
      have hwi := J.2.2.2.2.2.2.2
      have hwj := (I j hj.1).2.2.2.2.2.2.2
      have e1 : nI i + 1 = nI (i + 1) := nI_1 i
      cases e : al i with
      | false =>
        have hne : i ≠ j := fun z => by rw [z, hj.2.1] at e; exact absurd e (by decide)
        exact br_f (fg_n128 hi8) (J.2.1 _ e (br_t rfl (nm_r e1 (ih (i + 1) x1 x2 (by omega) ⟨fun z => hx.1 (by omega), fun z => hx.2 (by omega)⟩))))
      | true =>
        refine br_f (fg_n128 hi8) (J.1 _ e (br_f (by decide) (J.2.2.1 _ (br_c (fun z => nm_r e1 (ih (i + 1) x1 x2 (by omega) ⟨fun t => ?_, fun t => hx.2 (by omega)⟩)) (fun z => nm_r e1 (ih (i + 1) (nI i) (lN (wo i)) (by omega) ⟨fun t => ?_, fun t => Or.inr ⟨wo i, hj.2.2.2 i (by omega) e, rfl⟩⟩))))))
        · by_cases hij : i = j
          · subst hij
            rcases hx.2 (Nat.le_refl _) with x | ⟨g, hg, x⟩
            · rw [x] at z; exact absurd z (fg_m1 hwi)
            · rw [x, lN_le hwi (by omega)] at z; omega
          · exact hx.1 (by omega)
        · by_cases hij : i = j
          · subst hij; exact ⟨rfl, rfl⟩
          · have x := (hx.1 (by omega)).2
            rw [x, lN_le hwi hwj] at z
            exact absurd (hj.2.2.1 i hi8 e) z
  exact ⟨129, key 128 0 0 (-1) rfl ⟨fun z => absurd z (by omega), fun _ => Or.inl rfl⟩⟩
theorem fg_gyl (I : fg_If (cx, fx, vx, A, S, W) (cy, B, Wy, F) al wo) {j : Nat} (hj : fg_Bj al wo 128 j) {i : Nat} (hi : i < 128) : fg_gy al wo i ≤ wo j := by
  unfold fg_gy
  by_cases h : al i = true
  · rw [if_pos h]; exact hj.2.2.1 i hi h
  · rw [if_neg h]; omega
theorem fg_bestY (I : fg_If (cx, fx, vx, A, S, W) (cy, B, Wy, F) al wo) {j : Nat} (hj : fg_Bj al wo 128 j) (post : Int64 → Prop) (h : post (lN (wo j))) : wpY_best post (cy, B, Wy, F) := by
  have hwj := (I j hj.1).2.2.2.2.2.2.2
  have key : ∀ d i g, i + d = 128 → g ≤ wo j → (j < i → g = wo j) → wY_best_4 post cy B Wy F (d + 1) (lN g) (nI i) := by
    intro d
    induction d with
    | zero =>
      intro i g hi hg hx
      have e : i = 128 := by omega
      subst e
      rw [hx hj.1]
      exact br_t fg_128 h
    | succ d ih =>
      intro i g hi hg hx
      have hi8 : i < 128 := by omega
      have hl := fg_gyl I hj hi8
      have e1 : nI i + 1 = nI (i + 1) := nI_1 i
      have ej : i = j → fg_gy al wo i = wo j := fun z => by unfold fg_gy; rw [z, if_pos hj.2.1]
      refine br_f (fg_n128 hi8) (fg_yw I hi8 _ (br_c (fun z => nm_r e1 (ih (i + 1) g (by omega) hg (fun t => ?_))) (fun z => nm_r e1 (ih (i + 1) _ (by omega) hl (fun t => ?_)))))
      · rw [lN_le (by omega) (by omega)] at z
        by_cases hij : i = j
        · have := ej hij; omega
        · exact hx (by omega)
      · rw [lN_le (by omega) (by omega)] at z
        by_cases hij : i = j
        · exact ej hij
        · have := hx (by omega); omega
  exact ⟨129, key 128 0 0 rfl (Nat.zero_le _) (fun z => absurd z (by omega))⟩
theorem fg_baY (I : fg_If (cx, fx, vx, A, S, W) (cy, B, Wy, F) al wo) {j : Nat} (hj : fg_Bj al wo 128 j) (post : Int32 → Prop) (h : post (nI j)) : wpY_bestAssignment post (cy, B, Wy, F) := by
  have hwj := (I j hj.1).2.2.2.2.2.2.2
  have key : ∀ d i, i + d = 128 → i ≤ j → wY_bestAssignment_7 post (lN (wo j)) cy B Wy F (d + 1) (nI i) := by
    intro d
    induction d with
    | zero => intro i hi hij; have := hj.1; omega
    | succ d ih =>
      intro i hi hij
      have hi8 : i < 128 := by omega
      have J := I i hi8
      have e1 : nI i + 1 = nI (i + 1) := nI_1 i
      have hw := J.2.2.2.2.2.2.2
      cases e : al i with
      | false =>
        have hne : i ≠ j := fun z => by rw [z, hj.2.1] at e; exact absurd e (by decide)
        exact br_f (fg_n128 hi8) (J.2.2.2.2.1 _ e (br_t rfl (nm_r e1 (ih (i + 1) (by omega) (by omega)))))
      | true =>
        refine br_f (fg_n128 hi8) (J.2.2.2.1 _ e (br_f (by decide) (J.2.2.2.2.2.1 _ e ?_)))
        by_cases hne : i = j
        · subst hne; exact br_t rfl h
        · have hlt := hj.2.2.2 i (by omega) e
          exact br_f (fun z => by rw [lN_eq hw hwj] at z; omega) (nm_r e1 (ih (i + 1) (by omega) (by omega)))
  unfold wpY_bestAssignment
  exact fg_bestY I hj _ ⟨129, key 128 0 rfl (Nat.zero_le _)⟩
/-- how many allowed assignments below n have a worth above 0 -/
def fg_ct (al : Nat → Bool) (wo : Nat → Nat) : Nat → Nat
  | 0 => 0
  | n + 1 => fg_ct al wo n + (if fg_gy al wo n = 0 then 0 else 1)
theorem fg_ct0 {i : Nat} (h : fg_gy al wo i = 0) : fg_ct al wo (i + 1) = fg_ct al wo i := by
  show _ + (if _ then _ else _) = _
  rw [if_pos h]; rfl
theorem fg_ct1 {i : Nat} (h : ¬ fg_gy al wo i = 0) : nI (fg_ct al wo i) + 1 = nI (fg_ct al wo (i + 1)) := by
  show _ = nI (_ + (if _ then _ else _))
  rw [if_neg h]; exact nI_1 _
theorem fg_le0 {w : Nat} (h : w < 2 ^ 31) : lN w ≤ 0 ↔ w = 0 := by
  have := lN_le (b := 0) h (by decide)
  constructor
  · intro z; have := this.mp z; omega
  · intro z; exact this.mpr (by omega)
theorem fg_posX (I : fg_If (cx, fx, vx, A, S, W) (cy, B, Wy, F) al wo) (post : Int32 → Prop) (h : post (nI (fg_ct al wo 128))) : wpX_possible post (cx, fx, vx, A, S, W) := by
  refine fg_loop (fun n s x => wX_possible_4 post cx fx vx A S W n s x) (fun i => nI (fg_ct al wo i)) (fun n => br_t fg_128 h) (fun n i hi ih => ?_)
  have J := I i hi
  have e1 : nI i + 1 = nI (i + 1) := nI_1 i
  have hw := J.2.2.2.2.2.2.2
  cases e : al i with
  | false =>
    have e0 : fg_gy al wo i = 0 := by unfold fg_gy; rw [e, if_neg (by decide)]
    rw [fg_ct0 e0] at ih
    exact br_f (fg_n128 hi) (J.2.1 _ e (br_t rfl (nm_r e1 ih)))
  | true =>
    have e0 : fg_gy al wo i = wo i := by unfold fg_gy; rw [e, if_pos rfl]
    refine br_f (fg_n128 hi) (J.1 _ e (br_f (by decide) (J.2.2.1 _ ?_)))
    by_cases hz : wo i = 0
    · rw [fg_ct0 (by rw [e0, hz])] at ih
      exact br_t ((fg_le0 hw).mpr hz) (nm_r e1 ih)
    · exact br_f (fun z => hz ((fg_le0 hw).mp z)) (nm_r (fg_ct1 (by rw [e0]; exact hz)) (nm_r e1 ih))
theorem fg_posY (I : fg_If (cx, fx, vx, A, S, W) (cy, B, Wy, F) al wo) (post : Int32 → Prop) (h : post (nI (fg_ct al wo 128))) : wpY_possible post (cy, B, Wy, F) := by
  refine fg_loop (fun n s x => wY_possible_4 post cy B Wy F n s x) (fun i => nI (fg_ct al wo i)) (fun n => br_t fg_128 h) (fun n i hi ih => ?_)
  have e1 : nI i + 1 = nI (i + 1) := nI_1 i
  have hw : fg_gy al wo i < 2 ^ 31 := by
    have := (I i hi).2.2.2.2.2.2.2
    unfold fg_gy
    by_cases h : al i = true
    · rw [if_pos h]; exact this
    · rw [if_neg h]; decide
  refine br_f (fg_n128 hi) (fg_yw I hi _ ?_)
  by_cases hz : fg_gy al wo i = 0
  · rw [fg_ct0 hz] at ih
    exact br_t ((fg_le0 hw).mpr hz) (nm_r e1 ih)
  · exact br_f (fun z => hz ((fg_le0 hw).mp z)) (nm_r (fg_ct1 hz) (nm_r e1 ih))
end
end
section
/-- not a variable's number -/
def fg_No (x : Int32) : Prop := x < 0 ∨ (¬ x < 0 ∧ 7 ≤ x ∧ ¬ x ≤ 6)
theorem fg_tri (x : Int32) : (∃ j, j < 7 ∧ x = nI j) ∨ fg_No x := by
  by_cases h : x < 0
  · exact Or.inr (Or.inl h)
  · obtain ⟨j, hj, rfl⟩ := nI_of h
    by_cases h7 : j < 7
    · exact Or.inl ⟨j, h7, rfl⟩
    · exact Or.inr (Or.inr ⟨h, nI_le (a := 7) (by omega) hj, nI_ge (a := 6) (by omega) hj⟩)
theorem fg_iv1 (post : Int32 → Prop) {j : Nat} (hj : j < 7) (h : post 1) : wpX_isVariable post (nI j) :=
  br_f (nI_pos (by omega)) (br_f (nI_ge (b := 7) hj (by decide)) h)
theorem fg_iv0 (post : Int32 → Prop) {x : Int32} (hx : fg_No x) (h : post 0) : wpX_isVariable post x := by
  rcases hx with hx | ⟨h0, h7, _⟩
  · exact br_t hx h
  · exact br_f h0 (br_t h7 h)
section
variable {cx fx vx : Int32} {A S W : Nat → Int32} {cy : Int32} {B Wy F : Nat → Int32} {al : Nat → Bool} {wo : Nat → Nat}
theorem fg_bad1 (post : Int32 → Prop) {x : Int32} (hx : fg_No x) (h : post 1) : wpY_bad post (cy, B, Wy, F) x := by
  rcases hx with hx | ⟨h0, _, h7⟩
  · exact br_t hx h
  · exact br_f h0 (br_f h7 h)
theorem fg_alikeY0 {x y : Int32} (hx : fg_No x ∨ ((∃ j, j < 7 ∧ x = nI j) ∧ fg_No y)) (post : Int64 → Prop) (h : post 0) : wpY_alike post (cy, B, Wy, F) x y := by
  refine fg_loop (fun n s z => wY_alike_5 post x y cy B Wy F n s z) (fun _ => (0 : Int64)) (fun n => br_t fg_128 h) (fun n i hi ih => ?_)
  have e1 : nI i + 1 = nI (i + 1) := nI_1 i
  rcases hx with hx | ⟨⟨j, hj, rfl⟩, hy⟩
  · exact br_f (fg_n128 hi) (fg_bad1 _ hx (br_f (by decide) (nm_r e1 ih)))
  · exact br_f (fg_n128 hi) (fg_bad0 _ hj (br_t rfl (fg_bad1 _ hy (br_f (by decide) (nm_r e1 ih)))))
theorem fg_shareX (I : fg_If (cx, fx, vx, A, S, W) (cy, B, Wy, F) al wo) {a : Nat} (ha : a < 7) (post : Int64 → Prop) (h : post (lN (fg_sm (fg_gb al wo a a) 128))) :
    wpX_sumWhere post (cx, fx, vx, A, S, W) ((1 : Int32) <<< (nI a &&& 31)) ((1 : Int32) <<< (nI a &&& 31)) := by
  refine fg_sumX I _ _ post ?_
  rw [fg_eqB al wo (a := a) (b := a) (fun i hi => ⟨fun z => ⟨(fg_t7 i hi a ha).mp z, (fg_t7 i hi a ha).mp z⟩, fun z => (fg_t7 i hi a ha).mpr z.1⟩)]
  exact h
theorem fg_bothX (I : fg_If (cx, fx, vx, A, S, W) (cy, B, Wy, F) al wo) {a b : Nat} (ha : a < 7) (hb : b < 7) (post : Int64 → Prop) (h : post (lN (fg_sm (fg_gb al wo a b) 128))) :
    wpX_sumWhere post (cx, fx, vx, A, S, W) (((1 : Int32) <<< (nI a &&& 31)) ||| ((1 : Int32) <<< (nI b &&& 31))) (((1 : Int32) <<< (nI a &&& 31)) ||| ((1 : Int32) <<< (nI b &&& 31))) := by
  refine fg_sumX I _ _ post ?_
  rw [fg_eqB al wo (a := a) (b := b) (fun i hi => fg_t8 i hi a ha b hb)]
  exact h
theorem fg_totX (I : fg_If (cx, fx, vx, A, S, W) (cy, B, Wy, F) al wo) (post : Int64 → Prop) (h : post (lN (fg_sm (fg_gy al wo) 128))) :
    wpX_sumWhere post (cx, fx, vx, A, S, W) 0 0 := by
  refine fg_sumX I _ _ post ?_
  rw [fg_eqT]
  exact h
theorem fg_shareY (I : fg_If (cx, fx, vx, A, S, W) (cy, B, Wy, F) al wo) {a : Nat} (ha : a < 7) (post : Int64 → Prop) (h : post (lN (fg_sm (fg_gb al wo a a) 128))) :
    wpY_share post (cy, B, Wy, F) (nI a) := by
  unfold wpY_share
  exact fg_bad0 _ ha (br_t rfl (fg_bothY I ha ha _ h))
end
theorem i_vc_total {k : Nat} {u : SX} {v : SY} (I : i_Rel k u v) (hk : k + 4 ≤ 2048) : wpX_total (fun r => wpY_total (fun r' => r' = r ∧ i_Rel (k + 4) u v) v) u := by
  obtain ⟨al, wo, J, _⟩ := fg_iface I
  obtain ⟨cx, fx, vx, A, S, W⟩ := u
  obtain ⟨cy, B, Wy, F⟩ := v
  unfold wpX_total
  exact fg_totX J _ (fg_totY J _ ⟨rfl, I⟩)
theorem i_vc_share {k : Nat} {u : SX} {v : SY} (I : i_Rel k u v) (hk : k + 4 ≤ 2048) (v1 : Int32) : wpX_share (fun r => wpY_share (fun r' => r' = r ∧ i_Rel (k + 4) u v) v v1) u v1 := by
  obtain ⟨al, wo, J, _⟩ := fg_iface I
  obtain ⟨cx, fx, vx, A, S, W⟩ := u
  obtain ⟨cy, B, Wy, F⟩ := v
  unfold wpX_share
  rcases fg_tri v1 with ⟨a, ha, rfl⟩ | h1
  · exact fg_iv1 _ ha (br_f (by decide) (nm_e (fg_shareX J ha _ (fg_shareY J ha _ ⟨rfl, I⟩))))
  · refine fg_iv0 _ h1 (br_t rfl ?_)
    unfold wpY_share
    exact fg_bad1 _ h1 (br_f (by decide) ⟨rfl, I⟩)
theorem i_vc_alike {k : Nat} {u : SX} {v : SY} (I : i_Rel k u v) (hk : k + 4 ≤ 2048) (v1 : Int32) (v2 : Int32) : wpX_alike (fun r => wpY_alike (fun r' => r' = r ∧ i_Rel (k + 4) u v) v v1 v2) u v1 v2 := by
  obtain ⟨al, wo, J, _⟩ := fg_iface I
  obtain ⟨cx, fx, vx, A, S, W⟩ := u
  obtain ⟨cy, B, Wy, F⟩ := v
  unfold wpX_alike
  rcases fg_tri v1 with ⟨a, ha, rfl⟩ | h1
  · rcases fg_tri v2 with ⟨b, hb, rfl⟩ | h2
    · refine fg_iv1 _ ha (br_f (by decide) (fg_iv1 _ hb (br_f (by decide) (nm_e ?_))))
      refine fg_sumX J _ _ _ (fg_sumX J _ _ _ (fg_alikeY J ha hb _ ⟨?_, I⟩))
      rw [lN_add, fg_eqA al wo (a := a) (b := b) (fun i hi => fg_t8 i hi a ha b hb) (fun i hi => fg_t9 i hi a ha b hb)]
    · exact fg_iv1 _ ha (br_f (by decide) (fg_iv0 _ h2 (br_t rfl (fg_alikeY0 (Or.inr ⟨⟨a, ha, rfl⟩, h2⟩) _ ⟨rfl, I⟩))))
  · exact fg_iv0 _ h1 (br_t rfl (fg_alikeY0 (Or.inl h1) _ ⟨rfl, I⟩))
theorem fg_bj {al : Nat → Bool} {wo : Nat → Nat} (h : ∃ a, a < 128 ∧ al a = true) : ∃ j, fg_Bj al wo 128 j := by
  obtain ⟨a, ha, e⟩ := h
  rcases fg_Bex al wo 128 with z | z
  · rw [z a ha] at e; exact absurd e (by decide)
  · exact z
theorem i_vc_best {k : Nat} {u : SX} {v : SY} (I : i_Rel k u v) (hk : k + 4 ≤ 2048) : wpX_best (fun r => wpY_best (fun r' => r' = r ∧ i_Rel (k + 4) u v) v) u := by
  obtain ⟨al, wo, J, E⟩ := fg_iface I
  obtain ⟨cx, fx, vx, A, S, W⟩ := u
  obtain ⟨cy, B, Wy, F⟩ := v
  obtain ⟨j, hj⟩ := fg_bj (wo := wo) E
  unfold wpX_best
  exact fg_bestX J hj _ ((J j hj.1).2.2.1 _ (fg_bestY J hj _ ⟨rfl, I⟩))
theorem i_vc_bestAssignment {k : Nat} {u : SX} {v : SY} (I : i_Rel k u v) (hk : k + 4 ≤ 2048) : wpX_bestAssignment (fun r => wpY_bestAssignment (fun r' => r' = r ∧ i_Rel (k + 4) u v) v) u := by
  obtain ⟨al, wo, J, E⟩ := fg_iface I
  obtain ⟨cx, fx, vx, A, S, W⟩ := u
  obtain ⟨cy, B, Wy, F⟩ := v
  obtain ⟨j, hj⟩ := fg_bj (wo := wo) E
  exact fg_bestX J hj _ (fg_baY J hj _ ⟨rfl, I⟩)
theorem i_vc_possible {k : Nat} {u : SX} {v : SY} (I : i_Rel k u v) (hk : k + 4 ≤ 2048) : wpX_possible (fun r => wpY_possible (fun r' => r' = r ∧ i_Rel (k + 4) u v) v) u := by
  obtain ⟨al, wo, J, _⟩ := fg_iface I
  obtain ⟨cx, fx, vx, A, S, W⟩ := u
  obtain ⟨cy, B, Wy, F⟩ := v
  exact fg_posX J _ (fg_posY J _ ⟨rfl, I⟩)
theorem i_vc_independent {k : Nat} {u : SX} {v : SY} (I : i_Rel k u v) (hk : k + 4 ≤ 2048) (v1 : Int32) (v2 : Int32) : wpX_independent (fun r => wpY_independent (fun r' => r' = r ∧ i_Rel (k + 4) u v) v v1 v2) u v1 v2 := by
  obtain ⟨al, wo, J, _⟩ := fg_iface I
  obtain ⟨cx, fx, vx, A, S, W⟩ := u
  obtain ⟨cy, B, Wy, F⟩ := v
  unfold wpX_independent
  rcases fg_tri v1 with ⟨a, ha, rfl⟩ | h1
  · rcases fg_tri v2 with ⟨b, hb, rfl⟩ | h2
    · refine fg_iv1 _ ha (br_f (by decide) (fg_iv1 _ hb (br_f (by decide) (nm_e (nm_e (nm_e ?_))))))
      refine fg_shareX J ha _ (fg_shareX J hb _ (fg_totX J _ (fg_bothX J ha hb _ ?_)))
      have Y : ∀ post : Int32 → Prop, ((lN (fg_sm (fg_gy al wo) 128) * lN (fg_sm (fg_gb al wo a b) 128) = lN (fg_sm (fg_gb al wo a a) 128) * lN (fg_sm (fg_gb al wo b b) 128) → post 1) ∧ (¬ lN (fg_sm (fg_gy al wo) 128) * lN (fg_sm (fg_gb al wo a b) 128) = lN (fg_sm (fg_gb al wo a a) 128) * lN (fg_sm (fg_gb al wo b b) 128) → post 0)) → wpY_independent post (cy, B, Wy, F) (nI a) (nI b) := fun post hp => by
        unfold wpY_independent
        exact fg_bad0 _ ha (br_t rfl (fg_bad0 _ hb (br_t rfl (fg_totY J _ (fg_bothY J ha hb _ (fg_shareY J ha _ (fg_shareY J hb _ hp)))))))
      exact br_c (fun z => Y _ (br_t z ⟨rfl, I⟩)) (fun z => Y _ (br_f z ⟨rfl, I⟩))
    · refine fg_iv1 _ ha (br_f (by decide) (fg_iv0 _ h2 (br_t rfl ?_)))
      unfold wpY_independent
      exact fg_bad0 _ ha (br_t rfl (fg_bad1 _ h2 (br_f (by decide) ⟨rfl, I⟩)))
  · refine fg_iv0 _ h1 (br_t rfl ?_)
    unfold wpY_independent
    exact fg_bad1 _ h1 (br_f (by decide) ⟨rfl, I⟩)
end
section
theorem i_vc0 : wpX_init (fun u => wpY_init (fun v => i_Rel 0 u v)) := by
  have key : ∀ (post : SY → Prop) (B W : Nat → Int32), (∀ F : Nat → Int32, (∀ v, v < 7 → F v = -1) → post (0, B, W, F)) → ∀ (d j : Nat) (F : Nat → Int32), j + d = 7 → (∀ v, v < j → F v = -1) → wY_init_30 post 0 (d + 1) (nI j) B W F := by
    intro post B W hp d
    induction d with
    | zero =>
      intro j F hj hF
      exact br_t (nI_le (a := 7) (b := j) (by omega) (by omega)) (hp F (fun v hv => hF v (by omega)))
    | succ d ih =>
      intro j F hj hF
      refine br_f (nI_ge (b := 7) (a := j) (by omega) (by decide)) ⟨vp_in_nI (by omega) (by omega), ?_⟩
      rw [nI_clamp (by omega)]
      refine nm_e (nm_r (nI_1 j) (ih (j + 1) _ (by omega) (lt_s (fun v hv => ?_) pk_us)))
      rw [pk_un (by omega)]; exact hF v hv
  refine ⟨8, key _ _ _ (fun F hF => ?_) 7 0 _ rfl (fun v hv => absurd hv (by omega))⟩
  refine ⟨0, 0, 0, _, _, _, _, F, rfl, rfl, by decide, ⟨by decide, by decide, fun v hv => Or.inl ⟨hF v hv, ?_, ?_⟩⟩, fun f hf => absurd hf (by omega), fun i => ⟨0, by decide, rfl⟩⟩
  · unfold fg_bt; rw [Nat.zero_div]
  · unfold fg_bt; rw [Nat.zero_div]
theorem i_vc_drop {k : Nat} {u : SX} {v : SY} (I : i_Rel k u v) (hk : k + 4 ≤ 2048) : wpX_drop (fun r u' => wpY_drop (fun r' v' => r' = r ∧ i_Rel (k + 4) u' v') v) u := by
  have I' := I
  obtain ⟨m, p, q, A, S, W, B, F, rfl, rfl, hm, M, H, hW⟩ := I
  cases m with
  | zero => exact br_t rfl (br_t rfl ⟨rfl, I'⟩)
  | succ m =>
    have h : ¬ nI (m + 1) = 0 := nI_ne0 (by omega) (by omega)
    refine br_f h (nm_r (nI_pred m) (br_f h (nm_r (nI_pred m) ⟨rfl, ?_⟩)))
    exact ⟨m, p, q, A, S, W, B, F, rfl, rfl, by omega, M, fun f hf => H f (by omega), hW⟩
theorem fg_pv {x : Int32} (h1 : ¬ x < -1) (h2 : x ≤ 1) : x = -1 ∨ ∃ b, b < 2 ∧ x = nI b := by
  by_cases h : x < 0
  · refine Or.inl (Int32.toInt_inj.mp ?_)
    rw [Int32.lt_iff_toInt_lt] at h h1
    have e : (-1 : Int32).toInt = -1 := by decide
    have e0 : (0 : Int32).toInt = 0 := by decide
    rw [e] at h1 ⊢
    rw [e0] at h
    omega
  · obtain ⟨j, hj, e⟩ := nI_of2 (M := 1) (n := 1) (by decide) h h2
    exact Or.inr ⟨j, by omega, e⟩
theorem fg_MkU {p q v c b : Nat} {F : Nat → Int32} {x : Int32} (M : fg_Mk p q F) (hv : v < 7) (hx : (c = 0 ∧ b = 0 ∧ x = -1) ∨ (c = 1 ∧ b < 2 ∧ x = nI b)) : fg_Mk (fg_st p v c) (fg_st q v b) (upd F v x) := by
  have hc : c < 2 := by omega
  have hb : b < 2 := by omega
  refine ⟨(fg_t4 p M.1 v hv c hc).2, (fg_t4 q M.2.1 v hv b hb).2, fun w hw => ?_⟩
  rw [fg_t4b p M.1 v hv c hc w hw, fg_t4b q M.2.1 v hv b hb w hw]
  by_cases e : w = v
  · subst e
    rw [if_pos rfl, if_pos rfl, pk_us]
    rcases hx with ⟨h1, h2, h3⟩ | ⟨h1, h2, h3⟩
    · exact Or.inl ⟨h3, h1, h2⟩
    · exact Or.inr ⟨b, h2, h3, h1, rfl⟩
  · rw [if_neg e, if_neg e, pk_un e]
    exact M.2.2 w hw
theorem i_vc_evidence {k : Nat} {u : SX} {v : SY} (I : i_Rel k u v) (hk : k + 4 ≤ 2048) (v1 : Int32) (v2 : Int32) : wpX_evidence (fun r u' => wpY_evidence (fun r' v' => r' = r ∧ i_Rel (k + 4) u' v') v v1 v2) u v1 v2 := by
  have I' := I
  obtain ⟨m, p, q, A, S, W, B, F, rfl, rfl, hm, M, H, hW⟩ := I
  unfold wpX_evidence
  rcases fg_tri v1 with ⟨v, hv, rfl⟩ | h1
  · have hin : vp_in (nI v) 7 := vp_in_nI hv (by omega)
    have hc : (nI v).toNatClampNeg = v := nI_clamp (by omega)
    refine fg_iv1 _ hv (br_f (by decide) ?_)
    by_cases a1 : v2 < -1
    · refine br_t a1 ?_
      unfold wpY_evidence
      exact fg_bad0 _ hv (br_t rfl (br_t a1 ⟨rfl, I'⟩))
    · refine br_f a1 ?_
      by_cases a2 : v2 ≤ 1
      · refine br_t a2 (nm_e ?_)
        have Y : ∀ post : Int32 → SY → Prop, post (F v) (nI m, B, W, upd F v v2) → wpY_evidence post (nI m, B, W, F) (nI v) v2 := fun post hp => by
          unfold wpY_evidence
          refine fg_bad0 _ hv (br_t rfl (br_f a1 (br_t a2 ⟨hin, ?_⟩)))
          rw [hc]
          exact nm_e ⟨hin, nm_e hp⟩
        have X : wX_evidence_48 (fun r u' => wpY_evidence (fun r' v' => r' = r ∧ i_Rel (k + 4) u' v') (nI m, B, W, F) (nI v) v2) (nI v) v2 ((1 : Int32) <<< (nI v &&& 31)) (F v) (nI m) (nI p) (nI q) A S W := by
          refine nm_r (fg_t3 p M.1 v hv) (nm_r (fg_t3 q M.2.1 v hv) ?_)
          rcases fg_pv a1 a2 with rfl | ⟨b, hb, rfl⟩
          · refine br_t rfl (Y _ ⟨rfl, ?_⟩)
            refine ⟨m, fg_cl p v, fg_cl q v, A, S, W, B, _, rfl, rfl, hm, ?_, H, hW⟩
            rw [← fg_cl0, ← fg_cl0]
            exact fg_MkU M hv (Or.inl ⟨rfl, rfl, rfl⟩)
          · have hb' : ¬ nI b = -1 := fun z => by
              have := nI_pos (n := b) (by omega)
              rw [z] at this; exact this (by decide)
            refine br_f hb' (nm_r (fg_t4 p M.1 v hv 1 (by decide)).1 (nm_r (fg_t4 q M.2.1 v hv b hb).1 (Y _ ⟨rfl, ?_⟩)))
            exact ⟨m, fg_st p v 1, fg_st q v b, A, S, W, B, _, rfl, rfl, hm, fg_MkU M hv (Or.inr ⟨rfl, hb, rfl⟩), H, hW⟩
        rcases M.2.2 v hv with ⟨f, hp, hq⟩ | ⟨b, hb, f, hp, hq⟩
        · rw [f] at X
          exact br_t ((fg_t5 p M.1 v hv).mpr hp) X
        · rw [f] at X
          have e : (nI q >>> (nI v &&& 31)) &&& 1 = nI b := by rw [fg_t1 q M.2.1 v hv, hq]
          exact br_f (fun z => by have := (fg_t5 p M.1 v hv).mp z; omega) (nm_r e X)
      · refine br_f a2 ?_
        unfold wpY_evidence
        exact fg_bad0 _ hv (br_t rfl (br_f a1 (br_f a2 ⟨rfl, I'⟩)))
  · refine fg_iv0 _ h1 (br_t rfl ?_)
    unfold wpY_evidence
    exact fg_bad1 _ h1 (br_f (by decide) ⟨rfl, I'⟩)
theorem i_vc_weight {k : Nat} {u : SX} {v : SY} (I : i_Rel k u v) (hk : k + 4 ≤ 2048) (v1 : Int32) (v2 : Int32) (v3 : Int32) : wpX_weight (fun r u' => wpY_weight (fun r' v' => r' = r ∧ i_Rel (k + 4) u' v') v v1 v2 v3) u v1 v2 v3 := by
  have I' := I
  obtain ⟨m, p, q, A, S, W, B, F, rfl, rfl, hm, M, H, hW⟩ := I
  by_cases a1 : v1 < 0
  · exact br_t a1 (br_t a1 ⟨rfl, I'⟩)
  · obtain ⟨f, hf, rfl⟩ := nI_of a1
    by_cases a2 : nI f < nI m
    · have hfm : f < m := (nI_ltI hf (by omega)).mp a2
      have hin : vp_in (nI f) 7 := vp_in_nI (by omega) (by omega)
      have hc : (nI f).toNatClampNeg = f := nI_clamp (by omega)
      have e31 : nI f * 3 + 1 = nI (f * 3 + 1) := by rw [fg_m3]; exact nI_1 _
      have e32 : nI f * 3 + 2 = nI (f * 3 + 2) := by rw [fg_m3]; exact nI_add _ 2
      have h1in : vp_in (nI f * 3 + 1) 21 := by rw [e31]; exact vp_in_nI (by omega) (by omega)
      have h2in : vp_in (nI f * 3 + 2) 21 := by rw [e32]; exact vp_in_nI (by omega) (by omega)
      -- the reference's number of ways
      have ways : ∃ s, s < 4 ∧ S f = nI s ∧ ∀ post : Int32 → SY → Prop, wY_weight_51 post (nI f) v2 v3 (nI (2 ^ s)) (nI m) B W F → wpY_weight post (nI m, B, W, F) (nI f) v2 v3 := by
        have c1 : B (nI f * 3 + 1).toNatClampNeg = B (f * 3 + 1) := by rw [e31, nI_clamp (by omega)]
        have c2 : B (nI f * 3 + 2).toNatClampNeg = B (f * 3 + 2) := by rw [e32, nI_clamp (by omega)]
        obtain ⟨x, hx, _, b0, h⟩ := H f hfm
        rcases h with ⟨s, b1, b2⟩ | ⟨y, hy, _, b1, h⟩
        · refine ⟨1, by decide, s, fun post h => br_f a1 (br_t a2 ⟨h1in, br_f ?_ h⟩)⟩
          rw [c1, b1]; decide
        · have z1 : 0 ≤ B (nI f * 3 + 1).toNatClampNeg := by rw [c1, b1]; exact nI_pos' (by omega)
          rcases h with ⟨s, b2⟩ | ⟨z, hz, _, b2, s⟩
          · refine ⟨2, by decide, s, fun post h => br_f a1 (br_t a2 ⟨h1in, br_t z1 ⟨h2in, br_f ?_ h⟩⟩)⟩
            rw [c2, b2]; decide
          · refine ⟨3, by decide, s, fun post h => br_f a1 (br_t a2 ⟨h1in, br_t z1 ⟨h2in, br_t ?_ h⟩⟩)⟩
            rw [c2, b2]; exact nI_pos' (by omega)
      obtain ⟨s, hs, eS, Y⟩ := ways
      refine br_f a1 (br_t a2 ?_)
      by_cases a3 : v2 < 0
      · exact br_t a3 (Y _ (br_t a3 ⟨rfl, I'⟩))
      · refine br_f a3 ⟨hin, ?_⟩
        rw [hc, eS, fg_t10 s hs]
        by_cases a4 : v2 < nI (2 ^ s)
        · refine br_t a4 ?_
          by_cases a5 : v3 < 0
          · exact br_t a5 (Y _ (br_f a3 (br_t a4 (br_t a5 ⟨rfl, I'⟩))))
          · refine br_f a5 ?_
            by_cases a6 : v3 ≤ 9
            · obtain ⟨j, hj, rfl⟩ := nI_of a3
              obtain ⟨w, hw, rfl⟩ := nI_of2 (M := 9) (n := 9) (by decide) a5 a6
              have p8 : 2 ^ s ≤ 8 := by
                have : 2 ^ s ≤ 2 ^ 3 := Nat.pow_le_pow_right (by decide) (by omega)
                exact this
              have hj8 : j < 2 ^ s := (nI_ltI hj (by omega)).mp a4
              have e8 : nI f * 8 + nI j = nI (f * 8 + j) := by rw [fg_m8, nI_add]
              have h8 : vp_in (nI (f * 8 + j)) 56 := vp_in_nI (by omega) (by omega)
              have hc8 : (nI (f * 8 + j)).toNatClampNeg = f * 8 + j := nI_clamp (by omega)
              refine br_t a6 (nm_r e8 ⟨h8, nm_e ⟨h8, nm_e (Y _ (br_f a3 (br_t a4 (br_f a5 (br_t a6 ?_)))))⟩⟩)
              rw [e8]
              refine ⟨h8, nm_e ⟨h8, nm_e ⟨rfl, ?_⟩⟩⟩
              refine ⟨m, p, q, A, S, _, B, F, rfl, rfl, hm, M, H, fun i => ?_⟩
              by_cases ei : i = (nI (f * 8 + j)).toNatClampNeg
              · rw [ei, pk_us]; exact ⟨w, hw, rfl⟩
              · rw [pk_un ei]; exact hW i
            · exact br_f a6 (Y _ (br_f a3 (br_t a4 (br_f a5 (br_f a6 ⟨rfl, I'⟩)))))
        · exact br_f a4 (Y _ (br_f a3 (br_f a4 ⟨rfl, I'⟩)))
    · exact br_f a1 (br_f a2 (br_f a1 (br_f a2 ⟨rfl, I'⟩)))
end
section
/-- the weights after the first i of a new factor's were set to 1 -/
def fg_w8 (W : Nat → Int32) (b : Nat) : Nat → Nat → Int32
  | 0 => W
  | i + 1 => upd (fg_w8 W b i) (b + i) 1
theorem fg_w8t {W : Nat → Int32} (b : Nat) (h : fg_Wt W) : ∀ i, fg_Wt (fg_w8 W b i) := by
  intro i
  induction i with
  | zero => exact h
  | succ i ih =>
    intro j
    show ∃ w, w ≤ 9 ∧ upd (fg_w8 W b i) (b + i) 1 j = nI w
    by_cases e : j = b + i
    · subst e; rw [pk_us]; exact ⟨1, by decide, rfl⟩
    · rw [pk_un e]; exact ih j
theorem fg_resX {m : Nat} (hm : m < 7) (post : SX → Prop) {c p q : Int32} {A S W : Nat → Int32} (h : post (c, p, q, A, S, fg_w8 W (m * 8) 8)) : wpX_resetWeights post (c, p, q, A, S, W) (nI m) := by
  have key : ∀ d i, i + d = 8 → wX_resetWeights_7 post (nI (m * 8)) c p q (d + 1) (nI i) A S (fg_w8 W (m * 8) i) := by
    intro d
    induction d with
    | zero =>
      intro i hi
      have e : i = 8 := by omega
      subst e
      exact br_t (nI_le (a := 8) (b := 8) (by omega) (by omega)) h
    | succ d ih =>
      intro i hi
      have e : nI (m * 8) + nI i = nI (m * 8 + i) := nI_add _ _
      refine br_f (nI_ge (b := 8) (a := i) (by omega) (by decide)) ?_
      rw [e, nI_clamp (by omega)]
      exact ⟨vp_in_nI (by omega) (by omega), nm_e (nm_r (nI_1 i) (ih (i + 1) (by omega)))⟩
  exact nm_r (fg_m8 m) ⟨9, key 8 0 rfl⟩
theorem fg_resY {m : Nat} (hm : m < 7) (post : Int32 → SY → Prop) {B W F : Nat → Int32} (h : post (nI m) (nI (m + 1), B, fg_w8 W (m * 8) 8, F)) : ∃ n, wY_factor_126 post (nI m) n 0 B W F := by
  have key : ∀ d i, i + d = 8 → wY_factor_126 post (nI m) (d + 1) (nI i) B (fg_w8 W (m * 8) i) F := by
    intro d
    induction d with
    | zero =>
      intro i hi
      have e : i = 8 := by omega
      subst e
      refine br_t (nI_le (a := 8) (b := 8) (by omega) (by omega)) (nm_r (nI_1 m) ?_)
      rw [nI_pred]; exact h
    | succ d ih =>
      intro i hi
      have e : nI m * 8 + nI i = nI (m * 8 + i) := by rw [fg_m8]; exact nI_add _ _
      refine br_f (nI_ge (b := 8) (a := i) (by omega) (by decide)) ?_
      rw [e, nI_clamp (by omega)]
      exact ⟨vp_in_nI (by omega) (by omega), nm_e (nm_r (nI_1 i) (ih (i + 1) (by omega)))⟩
  exact ⟨9, key 8 0 rfl⟩
/-- the three shapes of a factor that is taken -/
def fg_Sh (x y z : Int32) : Prop := ∃ a, a < 7 ∧ x = nI a ∧ ((y = -1 ∧ z = -1) ∨ ∃ b, b < 7 ∧ y = nI b ∧ (z = -1 ∨ ∃ c, c < 7 ∧ z = nI c))
def fg_S (y z : Int32) : Int32 := if y = -1 then nI 1 else if z = -1 then nI 2 else nI 3
def fg_A (A : Nat → Int32) (i : Nat) (x y z : Int32) : Nat → Int32 := if y = -1 then upd A i x else if z = -1 then upd (upd A i x) (i + 1) y else upd (upd (upd A i x) (i + 1) y) (i + 2) z
theorem fg_nm1 {b : Nat} (h : b < 7) : ¬ nI b = -1 := fun z => by
  have := nI_pos (n := b) (by omega)
  rw [z] at this; exact this (by decide)
theorem fg_setX {m : Nat} (hm : m < 7) {x y z : Int32} (hs : fg_Sh x y z) (post : SX → Prop) {c p q : Int32} {A S W : Nat → Int32} (h : post (c, p, q, fg_A A (m * 3) x y z, upd S m (fg_S y z), W)) : wpX_setVariables post (c, p, q, A, S, W) (nI m) x y z := by
  have hin : vp_in (nI m) 7 := vp_in_nI hm (by omega)
  have hc : (nI m).toNatClampNeg = m := nI_clamp (by omega)
  have h0 : vp_in (nI (m * 3)) 21 := vp_in_nI (by omega) (by omega)
  have h1 : vp_in (nI (m * 3 + 1)) 21 := vp_in_nI (by omega) (by omega)
  have h2 : vp_in (nI (m * 3 + 2)) 21 := vp_in_nI (by omega) (by omega)
  have c0 : (nI (m * 3)).toNatClampNeg = m * 3 := nI_clamp (by omega)
  have c1 : (nI (m * 3 + 1)).toNatClampNeg = m * 3 + 1 := nI_clamp (by omega)
  have c2 : (nI (m * 3 + 2)).toNatClampNeg = m * 3 + 2 := nI_clamp (by omega)
  have e1 : nI (m * 3) + 1 = nI (m * 3 + 1) := nI_1 _
  have e2 : nI (m * 3) + nI 2 = nI (m * 3 + 2) := nI_add _ 2
  have e11 : (1 : Int32) + 1 = nI 2 := rfl
  have e21 : nI 2 + 1 = nI 3 := rfl
  obtain ⟨a, ha, rfl, hs⟩ := hs
  refine nm_r (fg_m3 m) ⟨h0, ?_⟩
  rw [c0]
  refine nm_e ?_
  rcases hs with ⟨rfl, rfl⟩ | ⟨b, hb, rfl, rfl | ⟨d, hd, rfl⟩⟩
  · refine br_t rfl (br_t rfl ⟨hin, ?_⟩)
    rw [hc]
    exact nm_e h
  · have eA : fg_A A (m * 3) (nI a) (nI b) (-1) = upd (upd A (m * 3) (nI a)) (m * 3 + 1) (nI b) := by
      unfold fg_A; rw [if_neg (fg_nm1 hb), if_pos rfl]
    have eS : fg_S (nI b) (-1) = nI 2 := by unfold fg_S; rw [if_neg (fg_nm1 hb), if_pos rfl]
    rw [eA, eS] at h
    refine br_f (fg_nm1 hb) ?_
    rw [e1, c1]
    refine ⟨h1, nm_e (nm_r e11 (br_t rfl ⟨hin, ?_⟩))⟩
    rw [hc]
    exact nm_e h
  · have eA : fg_A A (m * 3) (nI a) (nI b) (nI d) = upd (upd (upd A (m * 3) (nI a)) (m * 3 + 1) (nI b)) (m * 3 + 2) (nI d) := by
      unfold fg_A; rw [if_neg (fg_nm1 hb), if_neg (fg_nm1 hd)]
    have eS : fg_S (nI b) (nI d) = nI 3 := by unfold fg_S; rw [if_neg (fg_nm1 hb), if_neg (fg_nm1 hd)]
    rw [eA, eS] at h
    refine br_f (fg_nm1 hb) ?_
    rw [e1, c1]
    refine ⟨h1, nm_e (nm_r e11 (br_f (fg_nm1 hd) ?_))⟩
    rw [e2, c2]
    refine ⟨h2, nm_e (nm_r e21 ⟨hin, ?_⟩)⟩
    rw [hc]
    exact nm_e h
/-- the factors afterwards -/
theorem fg_FacN {m : Nat} {A S B : Nat → Int32} {x y z : Int32} (hs : fg_Sh x y z) (H : ∀ f, f < m → fg_Fac A S B f) :
    ∀ f, f < m + 1 → fg_Fac (fg_A A (m * 3) x y z) (upd S m (fg_S y z)) (upd (upd (upd B (m * 3) x) (m * 3 + 1) y) (m * 3 + 2) z) f := by
  refine lt_s (fun f hf => ?_) ?_
  · have hA : ∀ i, i < m * 3 → fg_A A (m * 3) x y z i = A i := fun i hi => by
      unfold fg_A
      by_cases hy : y = -1
      · rw [if_pos hy, pk_un (by omega)]
      · rw [if_neg hy]
        by_cases hz : z = -1
        · rw [if_pos hz, pk_un (by omega), pk_un (by omega)]
        · rw [if_neg hz, pk_un (by omega), pk_un (by omega), pk_un (by omega)]
    have hB : ∀ i, i < m * 3 → upd (upd (upd B (m * 3) x) (m * 3 + 1) y) (m * 3 + 2) z i = B i := fun i hi => by
      rw [pk_un (by omega), pk_un (by omega), pk_un (by omega)]
    unfold fg_Fac
    rw [hA _ (by omega), hA _ (by omega), hA _ (by omega), hB _ (by omega), hB _ (by omega), hB _ (by omega), pk_un (by omega)]
    exact H f hf
  · have b0 : upd (upd (upd B (m * 3) x) (m * 3 + 1) y) (m * 3 + 2) z (m * 3) = x := by rw [pk_un (by omega), pk_un (by omega), pk_us]
    have b1 : upd (upd (upd B (m * 3) x) (m * 3 + 1) y) (m * 3 + 2) z (m * 3 + 1) = y := by rw [pk_un (by omega), pk_us]
    unfold fg_Fac
    rw [b0, b1, pk_us, pk_us]
    obtain ⟨a, ha, rfl, hs⟩ := hs
    rcases hs with ⟨rfl, rfl⟩ | ⟨b, hb, rfl, rfl | ⟨d, hd, rfl⟩⟩
    · refine ⟨a, ha, ?_, rfl, Or.inl ⟨rfl, rfl, rfl⟩⟩
      show upd A (m * 3) (nI a) (m * 3) = nI a
      exact pk_us
    · have eA : fg_A A (m * 3) (nI a) (nI b) (-1) = upd (upd A (m * 3) (nI a)) (m * 3 + 1) (nI b) := by
        unfold fg_A; rw [if_neg (fg_nm1 hb), if_pos rfl]
      have eS : fg_S (nI b) (-1) = nI 2 := by unfold fg_S; rw [if_neg (fg_nm1 hb), if_pos rfl]
      rw [eA, eS]
      refine ⟨a, ha, ?_, rfl, Or.inr ⟨b, hb, pk_us, rfl, Or.inl ⟨rfl, rfl⟩⟩⟩
      rw [pk_un (by omega), pk_us]
    · have eA : fg_A A (m * 3) (nI a) (nI b) (nI d) = upd (upd (upd A (m * 3) (nI a)) (m * 3 + 1) (nI b)) (m * 3 + 2) (nI d) := by
        unfold fg_A; rw [if_neg (fg_nm1 hb), if_neg (fg_nm1 hd)]
      have eS : fg_S (nI b) (nI d) = nI 3 := by unfold fg_S; rw [if_neg (fg_nm1 hb), if_neg (fg_nm1 hd)]
      rw [eA, eS]
      refine ⟨a, ha, ?_, rfl, Or.inr ⟨b, hb, ?_, rfl, Or.inr ⟨d, hd, pk_us, rfl, rfl⟩⟩⟩
      · rw [pk_un (by omega), pk_un (by omega), pk_us]
      · rw [pk_un (by omega), pk_us]
/-- the tests of factor, both sides: refused, or taken -/
theorem fg_tri3 (x : Int32) : x = -1 ∨ (∃ j, j < 7 ∧ x = nI j) ∨ (fg_No x ∧ ¬ x = -1 ∧ (x < -1 ∨ (¬ x < -1 ∧ 6 < x))) := by
  rcases fg_tri x with h | h
  · exact Or.inr (Or.inl h)
  · by_cases e : x = -1
    · exact Or.inl e
    · refine Or.inr (Or.inr ⟨h, e, ?_⟩)
      have e1 : (-1 : Int32).toInt = -1 := by decide
      have e0 : (0 : Int32).toInt = 0 := by decide
      have e6 : (6 : Int32).toInt = 6 := by decide
      have e' : ¬ x.toInt = -1 := fun z => e (Int32.toInt_inj.mp (by rw [z, e1]))
      unfold fg_No at h
      rw [Int32.lt_iff_toInt_lt, Int32.le_iff_toInt_le, Int32.le_iff_toInt_le] at h
      rw [Int32.lt_iff_toInt_lt, Int32.lt_iff_toInt_lt, e1, e6]
      rw [e0, e6] at h
      omega
theorem fg_ivn1 (post : Int32 → Prop) {x : Int32} (hx : x = -1 ∨ ∃ j, j < 7 ∧ x = nI j) (h : post 1) : wpX_isVariableOrNone post x := by
  rcases hx with rfl | ⟨j, hj, rfl⟩
  · exact br_t rfl h
  · exact br_f (fg_nm1 hj) (fg_iv1 _ hj (br_f (by decide) h))
theorem fg_ivn0 (post : Int32 → Prop) {x : Int32} (hx : fg_No x) (hn : ¬ x = -1) (h : post 0) : wpX_isVariableOrNone post x :=
  br_f hn (fg_iv0 _ hx (br_t rfl h))
end
section
theorem fg_f10 {x y z c p q cy : Int32} {A S W B Wy F : Nat → Int32} (hyz : y = -1 → z = -1) :
    ((∀ post : Int32 → SX → Prop, post (-1) (c, p, q, A, S, W) → wX_factor_10 post x y z c p q A S W) ∧ (∀ post : Int32 → SY → Prop, post (-1) (cy, B, Wy, F) → wY_factor_10 post x y z cy B Wy F)) ∨
    (fg_Sh x y z ∧ (∀ post : Int32 → SX → Prop, wX_factor_60 post x y z c p q A S W → wX_factor_10 post x y z c p q A S W) ∧ (∀ post : Int32 → SY → Prop, wY_factor_70 post x y z cy B Wy F → wY_factor_10 post x y z cy B Wy F)) := by
  unfold wX_factor_10 wY_factor_10
  rcases fg_tri x with ⟨a, ha, rfl⟩ | hx
  · have nlt : ∀ {t : Int32}, (t = -1 ∨ ∃ j, j < 7 ∧ t = nI j) → ¬ t < -1 ∧ ¬ 6 < t := fun {t} ht => by
      rcases ht with rfl | ⟨j, hj, rfl⟩
      · exact ⟨by decide, by decide⟩
      · refine ⟨fun z => ?_, nI_nlt (a := 6) (by omega) (by decide)⟩
        have e1 : (-1 : Int32).toInt = -1 := by decide
        rw [Int32.lt_iff_toInt_lt, nI_toInt (by omega), e1] at z
        omega
    have okY : (y = -1 ∨ ∃ j, j < 7 ∧ y = nI j) ∨ (fg_No y ∧ ¬ y = -1 ∧ (y < -1 ∨ (¬ y < -1 ∧ 6 < y))) := by
      rcases fg_tri3 y with h | h | h
      · exact Or.inl (Or.inl h)
      · exact Or.inl (Or.inr h)
      · exact Or.inr h
    have okZ : (z = -1 ∨ ∃ j, j < 7 ∧ z = nI j) ∨ (fg_No z ∧ ¬ z = -1 ∧ (z < -1 ∨ (¬ z < -1 ∧ 6 < z))) := by
      rcases fg_tri3 z with h | h | h
      · exact Or.inl (Or.inl h)
      · exact Or.inl (Or.inr h)
      · exact Or.inr h
    rcases okY with oy | ⟨ny, ey, ty⟩
    · obtain ⟨y1, y2⟩ := nlt oy
      rcases okZ with oz | ⟨nz, ez, tz⟩
      · obtain ⟨z1, z2⟩ := nlt oz
        by_cases exy : nI a = y
        · exact Or.inl ⟨fun post h => fg_iv1 _ ha (br_f (by decide) (fg_ivn1 _ oy (br_f (by decide) (fg_ivn1 _ oz (br_f (by decide) (br_t exy h)))))),
            fun post h => fg_bad0 _ ha (br_t rfl (br_f y1 (br_f y2 (br_f z1 (br_f z2 (br_t exy h))))))⟩
        by_cases exz : nI a = z
        · exact Or.inl ⟨fun post h => fg_iv1 _ ha (br_f (by decide) (fg_ivn1 _ oy (br_f (by decide) (fg_ivn1 _ oz (br_f (by decide) (br_f exy (br_t exz h))))))),
            fun post h => fg_bad0 _ ha (br_t rfl (br_f y1 (br_f y2 (br_f z1 (br_f z2 (br_f exy (br_t exz h)))))))⟩
        by_cases ey : y = -1
        · exact Or.inr ⟨⟨a, ha, rfl, Or.inl ⟨ey, hyz ey⟩⟩, fun post h => fg_iv1 _ ha (br_f (by decide) (fg_ivn1 _ oy (br_f (by decide) (fg_ivn1 _ oz (br_f (by decide) (br_f exy (br_f exz (br_t ey h)))))))),
            fun post h => fg_bad0 _ ha (br_t rfl (br_f y1 (br_f y2 (br_f z1 (br_f z2 (br_f exy (br_f exz (br_t ey h))))))))⟩
        by_cases eyz : y = z
        · exact Or.inl ⟨fun post h => fg_iv1 _ ha (br_f (by decide) (fg_ivn1 _ oy (br_f (by decide) (fg_ivn1 _ oz (br_f (by decide) (br_f exy (br_f exz (br_f ey (br_t eyz h))))))))),
            fun post h => fg_bad0 _ ha (br_t rfl (br_f y1 (br_f y2 (br_f z1 (br_f z2 (br_f exy (br_f exz (br_f ey (br_t eyz h)))))))))⟩
        · have sh : fg_Sh (nI a) y z := by
            rcases oy with h | ⟨b, hb, h⟩
            · exact absurd h ey
            · exact ⟨a, ha, rfl, Or.inr ⟨b, hb, h, oz⟩⟩
          exact Or.inr ⟨sh, fun post h => fg_iv1 _ ha (br_f (by decide) (fg_ivn1 _ oy (br_f (by decide) (fg_ivn1 _ oz (br_f (by decide) (br_f exy (br_f exz (br_f ey (br_f eyz h))))))))),
            fun post h => fg_bad0 _ ha (br_t rfl (br_f y1 (br_f y2 (br_f z1 (br_f z2 (br_f exy (br_f exz (br_f ey (br_f eyz h)))))))))⟩
      · refine Or.inl ⟨fun post h => fg_iv1 _ ha (br_f (by decide) (fg_ivn1 _ oy (br_f (by decide) (fg_ivn0 _ nz ez (br_t rfl h))))), fun post h => fg_bad0 _ ha (br_t rfl (br_f y1 (br_f y2 ?_)))⟩
        rcases tz with t | ⟨t, t2⟩
        · exact br_t t h
        · exact br_f t (br_t t2 h)
    · refine Or.inl ⟨fun post h => fg_iv1 _ ha (br_f (by decide) (fg_ivn0 _ ny ey (br_t rfl h))), fun post h => fg_bad0 _ ha (br_t rfl ?_)⟩
      rcases ty with t | ⟨t, t2⟩
      · exact br_t t h
      · exact br_f t (br_t t2 h)
  · exact Or.inl ⟨fun post h => fg_iv0 _ hx (br_t rfl h), fun post h => fg_bad1 _ hx (br_f (by decide) h)⟩
theorem fg_f60 {k m p q : Nat} {A S W B F : Nat → Int32} {x y z : Int32} (hm : m ≤ 7) (M : fg_Mk p q F) (H : ∀ f, f < m → fg_Fac A S B f) (hW : fg_Wt W)
    (hyz : y = -1 → z = -1) (PX : Int32 → SX → Prop) (hX : ∀ r u', wY_factor_10 (fun r' v' => r' = r ∧ i_Rel k u' v') x y z (nI m) B W F → PX r u') : wX_factor_10 PX x y z (nI m) (nI p) (nI q) A S W := by
  have I : i_Rel k (nI m, nI p, nI q, A, S, W) (nI m, B, W, F) := ⟨m, p, q, A, S, W, B, F, rfl, rfl, hm, M, H, hW⟩
  rcases fg_f10 (x := x) (c := nI m) (p := nI p) (q := nI q) (cy := nI m) (A := A) (S := S) (W := W) (B := B) (Wy := W) (F := F) hyz with ⟨rX, rY⟩ | ⟨sh, gX, gY⟩
  · exact rX _ (hX _ _ (rY _ ⟨rfl, I⟩))
  · refine gX _ ?_
    by_cases h7 : m = 7
    · subst h7
      exact br_f (nI_nlt (a := 7) (b := 7) (by omega) (by decide)) (hX _ _ (gY _ (br_t rfl ⟨rfl, I⟩)))
    · have hm7 : m < 7 := by omega
      refine br_t (nI_lt (b := 7) hm7 (by decide)) (fg_setX hm7 sh _ (fg_resX hm7 _ (nm_r (nI_1 m) (hX _ _ (gY _ (br_f ?_ ?_))))))
      · exact fun t => h7 ((nI_eq (b := 7) (by omega) (by decide)).mp t)
      · have e3 : nI m * 3 = nI (m * 3) := fg_m3 m
        have e31 : nI (m * 3) + 1 = nI (m * 3 + 1) := nI_1 _
        have e32 : nI (m * 3) + 2 = nI (m * 3 + 2) := nI_add _ 2
        rw [e3, e31, e32, nI_clamp (n := m * 3) (by omega), nI_clamp (n := m * 3 + 1) (by omega), nI_clamp (n := m * 3 + 2) (by omega)]
        refine ⟨vp_in_nI (by omega) (by omega), nm_e ⟨vp_in_nI (by omega) (by omega), nm_e ⟨vp_in_nI (by omega) (by omega), nm_e (fg_resY hm7 _ ⟨rfl, ?_⟩)⟩⟩⟩
        exact ⟨m + 1, p, q, _, _, _, _, F, rfl, rfl, by omega, M, fg_FacN sh H, fg_w8t _ hW 8⟩
theorem i_vc_factor {k : Nat} {u : SX} {v : SY} (I : i_Rel k u v) (hk : k + 4 ≤ 2048) (v1 : Int32) (v2 : Int32) (v3 : Int32) : wpX_factor (fun r u' => wpY_factor (fun r' v' => r' = r ∧ i_Rel (k + 4) u' v') v v1 v2 v3) u v1 v2 v3 := by
  obtain ⟨m, p, q, A, S, W, B, F, rfl, rfl, hm, M, H, hW⟩ := I
  by_cases h : v2 = -1
  · exact br_t h (fg_f60 hm M H hW (fun _ => rfl) _ (fun r u' g => br_t h g))
  · exact br_f h (fg_f60 hm M H hW (fun z => absurd z h) _ (fun r u' g => br_f h g))
end
