def fg_sm (g : Nat → Nat) : Nat → Nat
  | 0 => 0
  | n + 1 => fg_sm g n + g n
theorem fg_sm_c {g h : Nat → Nat} : ∀ n : Nat, (∀ a, a < n → g a = h a) → fg_sm g n = fg_sm h n := by
  intro n
  induction n with
  | zero => intro _; rfl
  | succ n ih =>
    intro H
    show fg_sm g n + g n = fg_sm h n + h n
    rw [ih (fun a ha => H a (by omega)), H n (by omega)]
theorem fg_sm_a (g h : Nat → Nat) : ∀ n : Nat, fg_sm g n + fg_sm h n = fg_sm (fun a => g a + h a) n := by
  intro n
  induction n with
  | zero => rfl
  | succ n ih =>
    show fg_sm g n + g n + (fg_sm h n + h n) = fg_sm (fun a => g a + h a) n + (g n + h n)
    omega
/-- a loop over the 128 assignments that adds g -/
theorem fg_loop {σ : Type} (W : Nat → σ → Int32 → Prop) (st : Nat → σ) (hx : ∀ n, W (n + 1) (st 128) (nI 128))
    (hs : ∀ n i, i < 128 → W n (st (i + 1)) (nI (i + 1)) → W (n + 1) (st i) (nI i)) : ∃ n, W n (st 0) (nI 0) := by
  have key : ∀ d i, i + d = 128 → W (d + 1) (st i) (nI i) := by
    intro d
    induction d with
    | zero => intro i hi; have e : i = 128 := by omega
              subst e; exact hx 0
    | succ d ih => intro i hi; exact hs (d + 1) i (by omega) (ih (i + 1) (by omega))
  exact ⟨129, key 128 0 rfl⟩
theorem fg_128 : (128 : Int32) ≤ nI 128 := nI_le (a := 128) (Nat.le_refl _) (by decide)
theorem fg_n128 {i : Nat} (h : i < 128) : ¬ (128 : Int32) ≤ nI i := nI_ge (b := 128) h (by decide)
section
variable {cx fx vx : Int32} {A S W : Nat → Int32} {cy : Int32} {B Wy F : Nat → Int32} {al : Nat → Bool} {wo : Nat → Nat} (I : fg_If (cx, fx, vx, A, S, W) (cy, B, Wy, F) al wo)
def fg_gx (al : Nat → Bool) (wo : Nat → Nat) (mask values : Int32) (i : Nat) : Nat := if al i = true ∧ nI i &&& mask = values then wo i else 0
def fg_gy (al : Nat → Bool) (wo : Nat → Nat) (i : Nat) : Nat := if al i = true then wo i else 0
theorem fg_yw (I : fg_If (cx, fx, vx, A, S, W) (cy, B, Wy, F) al wo) {i : Nat} (hi : i < 128) (post : Int64 → Prop) (h : post (lN (fg_gy al wo i))) : wpY_worth post (cy, B, Wy, F) (nI i) := by
  unfold fg_gy at h
  cases e : al i with
  | true => rw [if_pos e] at h; exact (I i hi).2.2.2.2.2.1 post e h
  | false => rw [if_neg (by rw [e]; decide)] at h; exact (I i hi).2.2.2.2.2.2.1 post e h
theorem fg_sumX (I : fg_If (cx, fx, vx, A, S, W) (cy, B, Wy, F) al wo) (mask values : Int32) (post : Int64 → Prop) (h : post (lN (fg_sm (fg_gx al wo mask values) 128))) : wpX_sumWhere post (cx, fx, vx, A, S, W) mask values := by
  refine fg_loop (fun n s x => wX_sumWhere_5 post mask values cx fx vx A S W n s x) (fun i => lN (fg_sm (fg_gx al wo mask values) i)) (fun n => br_t fg_128 h) (fun n i hi ih => ?_)
  have J := I i hi
  have e1 : nI i + 1 = nI (i + 1) := nI_1 i
  cases e : al i with
  | false =>
    have e0 : fg_sm (fg_gx al wo mask values) (i + 1) = fg_sm (fg_gx al wo mask values) i := by
      show _ + fg_gx al wo mask values i = _
      unfold fg_gx; rw [if_neg (fun z => by rw [e] at z; exact absurd z.1 (by decide))]; rfl
    rw [e0] at ih
    exact br_f (fg_n128 hi) (J.2.1 _ e (br_t rfl (nm_r e1 ih)))
  | true =>
    by_cases hc : nI i &&& mask = values
    · have e0 : lN (fg_sm (fg_gx al wo mask values) i) + lN (wo i) = lN (fg_sm (fg_gx al wo mask values) (i + 1)) := by
        rw [lN_add]
        show _ = lN (_ + fg_gx al wo mask values i)
        unfold fg_gx; rw [if_pos ⟨e, hc⟩]
      exact br_f (fg_n128 hi) (J.1 _ e (br_f (by decide) (br_t hc (J.2.2.1 _ (nm_r e0 (nm_r e1 ih))))))
    · have e0 : fg_sm (fg_gx al wo mask values) (i + 1) = fg_sm (fg_gx al wo mask values) i := by
        show _ + fg_gx al wo mask values i = _
        unfold fg_gx; rw [if_neg (fun z => hc z.2)]; rfl
      rw [e0] at ih
      exact br_f (fg_n128 hi) (J.1 _ e (br_f (by decide) (br_f hc (nm_r e1 ih))))
theorem fg_totY (I : fg_If (cx, fx, vx, A, S, W) (cy, B, Wy, F) al wo) (post : Int64 → Prop) (h : post (lN (fg_sm (fg_gy al wo) 128))) : wpY_total post (cy, B, Wy, F) := by
  refine fg_loop (fun n s x => wY_total_4 post cy B Wy F n s x) (fun i => lN (fg_sm (fg_gy al wo) i)) (fun n => br_t fg_128 h) (fun n i hi ih => ?_)
  have e0 : lN (fg_sm (fg_gy al wo) i) + lN (fg_gy al wo i) = lN (fg_sm (fg_gy al wo) (i + 1)) := lN_add _ _
  exact br_f (fg_n128 hi) (fg_yw I hi _ (nm_r e0 (nm_r (nI_1 i) ih)))
def fg_gb (al : Nat → Bool) (wo : Nat → Nat) (a b : Nat) (i : Nat) : Nat := if fg_bt i a = 1 ∧ fg_bt i b = 1 then fg_gy al wo i else 0
def fg_ga (al : Nat → Bool) (wo : Nat → Nat) (a b : Nat) (i : Nat) : Nat := if fg_bt i a = fg_bt i b then fg_gy al wo i else 0
theorem fg_vy (post : Int32 → Prop) {a v : Nat} (ha : a < 128) (hv : v < 7) (h : post (nI (fg_bt a v))) : wpY_value post (cy, B, Wy, F) (nI a) (nI v) := by
  refine br_t (nI_pos' (by omega)) ?_
  rw [fg_t1 a ha v hv]; exact h
theorem fg_bothY (I : fg_If (cx, fx, vx, A, S, W) (cy, B, Wy, F) al wo) {a b : Nat} (ha : a < 7) (hb : b < 7) (post : Int64 → Prop) (h : post (lN (fg_sm (fg_gb al wo a b) 128))) : wpY_both post (cy, B, Wy, F) (nI a) (nI b) := by
  refine fg_loop (fun n s x => wY_both_5 post (nI a) (nI b) cy B Wy F n s x) (fun i => lN (fg_sm (fg_gb al wo a b) i)) (fun n => br_t fg_128 h) (fun n i hi ih => ?_)
  have e1 : nI i + 1 = nI (i + 1) := nI_1 i
  have zero : ¬ (fg_bt i a = 1 ∧ fg_bt i b = 1) → wY_both_5 post (nI a) (nI b) cy B Wy F n (lN (fg_sm (fg_gb al wo a b) i)) (nI (i + 1)) := fun hn => by
    have e0 : fg_sm (fg_gb al wo a b) (i + 1) = fg_sm (fg_gb al wo a b) i := by
      show _ + fg_gb al wo a b i = _
      unfold fg_gb; rw [if_neg hn]; rfl
    rw [e0] at ih; exact ih
  refine br_f (fg_n128 hi) (fg_vy _ hi ha ?_)
  by_cases h1 : fg_bt i a = 1
  · refine br_t (by rw [h1]; rfl) (fg_vy _ hi hb ?_)
    by_cases h2 : fg_bt i b = 1
    · have e0 : lN (fg_sm (fg_gb al wo a b) i) + lN (fg_gy al wo i) = lN (fg_sm (fg_gb al wo a b) (i + 1)) := by
        rw [lN_add]
        show _ = lN (_ + fg_gb al wo a b i)
        unfold fg_gb; rw [if_pos ⟨h1, h2⟩]
      exact br_t (by rw [h2]; rfl) (fg_yw I hi _ (nm_r e0 (nm_r e1 ih)))
    · have h3 : fg_bt i b = 0 := by have := fg_bt01 i b; omega
      exact br_f (by rw [h3]; decide) (nm_r e1 (zero (fun z => h2 z.2)))
  · have h3 : fg_bt i a = 0 := by have := fg_bt01 i a; omega
    exact br_f (by rw [h3]; decide) (nm_r e1 (zero (fun z => h1 z.1)))
theorem fg_bad0 (post : Int32 → Prop) {a : Nat} (ha : a < 7) (h : post 0) : wpY_bad post (cy, B, Wy, F) (nI a) :=
  br_f (nI_pos (by omega)) (br_t (nI_le (b := 6) (by omega) (by decide)) h)
theorem fg_alikeY (I : fg_If (cx, fx, vx, A, S, W) (cy, B, Wy, F) al wo) {a b : Nat} (ha : a < 7) (hb : b < 7) (post : Int64 → Prop) (h : post (lN (fg_sm (fg_ga al wo a b) 128))) : wpY_alike post (cy, B, Wy, F) (nI a) (nI b) := by
  refine fg_loop (fun n s x => wY_alike_5 post (nI a) (nI b) cy B Wy F n s x) (fun i => lN (fg_sm (fg_ga al wo a b) i)) (fun n => br_t fg_128 h) (fun n i hi ih => ?_)
  have e1 : nI i + 1 = nI (i + 1) := nI_1 i
  have l1 := fg_bt2 i a
  have l2 := fg_bt2 i b
  refine br_f (fg_n128 hi) (fg_bad0 _ ha (br_t rfl (fg_bad0 _ hb (br_t rfl (fg_vy _ hi ha (fg_vy _ hi hb ?_))))))
  by_cases h1 : fg_bt i a = fg_bt i b
  · have e0 : lN (fg_sm (fg_ga al wo a b) i) + lN (fg_gy al wo i) = lN (fg_sm (fg_ga al wo a b) (i + 1)) := by
      rw [lN_add]
      show _ = lN (_ + fg_ga al wo a b i)
      unfold fg_ga; rw [if_pos h1]
    exact br_t (by rw [h1]) (fg_yw I hi _ (nm_r e0 (nm_r e1 ih)))
  · have e0 : fg_sm (fg_ga al wo a b) (i + 1) = fg_sm (fg_ga al wo a b) i := by
      show _ + fg_ga al wo a b i = _
      unfold fg_ga; rw [if_neg h1]; rfl
    rw [e0] at ih
    exact br_f (fun z => h1 ((nI_eq (by omega) (by omega)).mp z)) (nm_r e1 ih)
end
/-! the sums, side against side -/
theorem fg_eqT (al : Nat → Bool) (wo : Nat → Nat) : fg_sm (fg_gx al wo 0 0) 128 = fg_sm (fg_gy al wo) 128 := by
  refine fg_sm_c 128 (fun i hi => ?_)
  unfold fg_gx fg_gy
  have e : nI i &&& 0 = 0 := Int32.and_zero
  cases h : al i with
  | true => rw [if_pos ⟨rfl, e⟩, if_pos rfl]
  | false => rw [if_neg (fun z => absurd z.1 (by decide)), if_neg (by decide)]
theorem fg_eqB (al : Nat → Bool) (wo : Nat → Nat) {a b : Nat} {mask : Int32} (hm : ∀ i, i < 128 → (nI i &&& mask = mask ↔ fg_bt i a = 1 ∧ fg_bt i b = 1)) : fg_sm (fg_gx al wo mask mask) 128 = fg_sm (fg_gb al wo a b) 128 := by
  refine fg_sm_c 128 (fun i hi => ?_)
  unfold fg_gx fg_gb fg_gy
  by_cases h1 : nI i &&& mask = mask
  · rw [if_pos ((hm i hi).mp h1)]
    by_cases h : al i = true
    · rw [if_pos ⟨h, h1⟩, if_pos h]
    · rw [if_neg (fun z => h z.1), if_neg h]
  · rw [if_neg (fun z => h1 ((hm i hi).mpr z)), if_neg (fun z => h1 z.2)]
theorem fg_eqA (al : Nat → Bool) (wo : Nat → Nat) {a b : Nat} {mask : Int32} (hm : ∀ i, i < 128 → (nI i &&& mask = mask ↔ fg_bt i a = 1 ∧ fg_bt i b = 1)) (h0 : ∀ i, i < 128 → (nI i &&& mask = 0 ↔ fg_bt i a = 0 ∧ fg_bt i b = 0)) :
    fg_sm (fg_gx al wo mask 0) 128 + fg_sm (fg_gx al wo mask mask) 128 = fg_sm (fg_ga al wo a b) 128 := by
  rw [fg_sm_a]
  refine fg_sm_c 128 (fun i hi => ?_)
  show fg_gx al wo mask 0 i + fg_gx al wo mask mask i = _
  unfold fg_gx fg_ga fg_gy
  have l1 := fg_bt01 i a
  have l2 := fg_bt01 i b
  have H0 := h0 i hi
  have H1 := hm i hi
  by_cases h : al i = true
  · rw [if_pos h]
    by_cases z0 : nI i &&& mask = 0
    · have z1 : ¬ nI i &&& mask = mask := fun z => by have := H1.mp z; have := H0.mp z0; omega
      have := H0.mp z0
      rw [if_pos ⟨h, z0⟩, if_neg (fun t => z1 t.2), if_pos (by omega)]
      rfl
    · by_cases z1 : nI i &&& mask = mask
      · have := H1.mp z1
        rw [if_neg (fun t => z0 t.2), if_pos ⟨h, z1⟩, if_pos (by omega)]
        omega
      · have n0 : ¬ (fg_bt i a = 0 ∧ fg_bt i b = 0) := fun z => z0 (H0.mpr z)
        have n1 : ¬ (fg_bt i a = 1 ∧ fg_bt i b = 1) := fun z => z1 (H1.mpr z)
        rw [if_neg (fun t => z0 t.2), if_neg (fun t => z1 t.2), if_neg (by omega)]
  · rw [if_neg (fun t => h t.1), if_neg (fun t => h t.1), if_neg h]
    by_cases t : fg_bt i a = fg_bt i b
    · rw [if_pos t]
    · rw [if_neg t]
