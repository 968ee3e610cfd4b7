/-! The class's levels: what spread does, in words of relaxed edges. -/
theorem sU_same (A : Nat → Nat → Int32) (k j : Nat) (v : Int32) : sU A k j v k = upd (A k) j v := va_up_self _ _ _
theorem sU_ne (A : Nat → Nat → Int32) {k k' : Nat} (j : Nat) (v : Int32) (h : k' ≠ k) : sU A k j v k' = A k' := va_up_ne _ _ h
def eqv (A A' : Nat → Nat → Int32) : Prop := ∀ k, k ≠ 10 → A' k = A k
theorem eqv.rf {A : Nat → Nat → Int32} : eqv A A := fun _ _ => rfl
theorem eqv.tr {A A' A'' : Nat → Nat → Int32} (h : eqv A A') (h' : eqv A' A'') : eqv A A'' := fun k hk => (h' k hk).trans (h k hk)
theorem eqv_sU (A : Nat → Nat → Int32) (j : Nat) (v : Int32) : eqv A (sU A 10 j v) := fun _ hk => sU_ne A j v hk
section EV
variable {N K : Nat} {A A' : Nat → Nat → Int32}
theorem ev_isThing (x : Int32) : k_isThing N K A' x = k_isThing N K A x := rfl
theorem ev_isDoor (x : Int32) : k_isDoor N K A' x = k_isDoor N K A x := rfl
theorem ev_sortOf (h : eqv A A') (x : Int32) : k_sortOf N K A' x = k_sortOf N K A x := by
  rw [k_sortOf, k_sortOf, h 0 (by decide), ev_isThing (A := A) (A' := A')]
theorem ev_holderOf (h : eqv A A') (x : Int32) : k_holderOf N K A' x = k_holderOf N K A x := by
  rw [k_holderOf, k_holderOf, h 1 (by decide), ev_isThing (A := A) (A' := A')]
theorem ev_markOf (h : eqv A A') (x mk : Int32) : k_markOf N K A' x mk = k_markOf N K A x mk := by
  rw [k_markOf, k_markOf, ev_isThing (A := A) (A' := A')]
  by_cases c1 : mk < (0 : Int32)
  · rw [if_pos c1, if_pos c1]
  · rw [if_neg c1, if_neg c1]
    by_cases c2 : (4 : Int32) ≤ mk
    · rw [if_pos c2, if_pos c2]
    · have h4 := vp_lt (in4 c1 c2)
      rw [if_neg c2, if_neg c2, h (2 + mk.toNatClampNeg) (by omega)]
theorem ev_isSpace (h : eqv A A') (x : Int32) : k_isSpace N K A' x = k_isSpace N K A x := by
  rw [k_isSpace, k_isSpace, ev_sortOf h]
theorem ev_spaceOf_18 (h : eqv A A') : ∀ (k i : Nat) (v : Int32), k_spaceOf_18 N K A' k i v = k_spaceOf_18 N K A k i v := by
  intro k
  induction k with
  | zero => intro i v; rfl
  | succ k ih =>
    intro i v
    rw [k_spaceOf_18_S, k_spaceOf_18_S, ev_isSpace h, ev_holderOf h, ih]
theorem ev_spaceOf (h : eqv A A') (x : Int32) : k_spaceOf N K A' x = k_spaceOf N K A x := by
  rw [k_spaceOf, k_spaceOf, ev_sortOf h, ev_holderOf h, ev_spaceOf_18 h]
theorem ev_wallLoss (h : eqv A A') (x mk : Int32) : k_wallLoss N K A' x mk = k_wallLoss N K A x mk := by
  rw [k_wallLoss, k_wallLoss, ev_sortOf h, ev_markOf h, ev_markOf h]
theorem ev_doorLoss (h : eqv A A') (x mk : Int32) : k_doorLoss N K A' x mk = k_doorLoss N K A x mk := by
  rw [k_doorLoss, k_doorLoss, h (8 + (0 : Int32).toNatClampNeg) (by decide), h (8 + (1 : Int32).toNatClampNeg) (by decide), ev_isDoor (A := A) (A' := A')]
end EV
theorem isThing_1 {N K : Nat} {A : Nat → Nat → Int32} {j : Nat} (hN : N ≤ 30) (h : j < N) : k_isThing N K A (nI j) = (1 : Int32) := by
  rw [k_isThing, if_neg (nI_pos (by omega)), if_neg (nI_ge h (by omega))]
theorem isThing_n0 {N K : Nat} {A : Nat → Nat → Int32} {j : Nat} (hN : N ≤ 30) (h : j < N) : ¬ k_isThing N K A (nI j) = (0 : Int32) := by
  rw [isThing_1 hN h]; decide
theorem isThing_m1 {N K : Nat} {A : Nat → Nat → Int32} : k_isThing N K A (-1 : Int32) = (0 : Int32) := by
  rw [k_isThing, if_pos (by decide)]
theorem wallLoss_v {N K : Nat} {A : Nat → Nat → Int32} (x mk : Int32) : k_wallLoss N K A x mk = (-1 : Int32) ∨ ∃ w : Nat, w ≤ 2 ∧ k_wallLoss N K A x mk = nI w := by
  rw [k_wallLoss]
  by_cases c1 : k_sortOf N K A x = (1 : Int32)
  · rw [if_pos c1]
    by_cases c2 : k_markOf N K A x (0 : Int32) = (1 : Int32)
    · rw [if_pos c2]; exact Or.inr ⟨0, by decide, rfl⟩
    · rw [if_neg c2]
      by_cases c3 : mk = (3 : Int32)
      · rw [if_pos c3]; exact Or.inr ⟨2, by decide, rfl⟩
      · rw [if_neg c3]
        by_cases c4 : k_markOf N K A x (1 : Int32) = (1 : Int32)
        · rw [if_pos c4]; exact Or.inr ⟨1, by decide, rfl⟩
        · rw [if_neg c4]; exact Or.inl rfl
  · rw [if_neg c1]; exact Or.inl rfl
theorem doorLoss_v {N K : Nat} {A : Nat → Nat → Int32} (x mk : Int32) : k_doorLoss N K A x mk = (-1 : Int32) ∨ ∃ w : Nat, w ≤ 3 ∧ k_doorLoss N K A x mk = nI w := by
  rw [k_doorLoss]
  by_cases c1 : k_isDoor N K A x = (0 : Int32)
  · rw [if_pos c1]; exact Or.inl rfl
  · rw [if_neg c1]
    by_cases c2 : A (8 + (0 : Int32).toNatClampNeg) x.toNatClampNeg = (1 : Int32)
    · rw [if_pos c2]
      by_cases c3 : mk = (3 : Int32)
      · rw [if_pos c3]; exact Or.inr ⟨1, by decide, rfl⟩
      · rw [if_neg c3]; exact Or.inr ⟨2, by decide, rfl⟩
    · rw [if_neg c2]
      by_cases c3 : mk = (3 : Int32)
      · rw [if_pos c3]; exact Or.inr ⟨3, by decide, rfl⟩
      · rw [if_neg c3]
        by_cases c4 : A (8 + (1 : Int32).toNatClampNeg) x.toNatClampNeg = (1 : Int32)
        · rw [if_pos c4]; exact Or.inr ⟨3, by decide, rfl⟩
        · rw [if_neg c4]; exact Or.inl rfl
theorem spaceOf_v {N K : Nat} {A : Nat → Nat → Int32} (hN : N ≤ 30) (x : Int32) : k_spaceOf N K A x = (-1 : Int32) ∨ ∃ t : Nat, t < N ∧ k_spaceOf N K A x = nI t := by
  by_cases c : k_spaceOf N K A x = (-1 : Int32)
  · exact Or.inl c
  · exact Or.inr (isThing_j hN (isSpace_T (spaceOf_S c)))
/-- the levels are these numbers -/
def lvs (N : Nat) (A : Nat → Nat → Int32) (L : Nat → Nat) : Prop := ∀ x, x < N → A 10 x = nI (L x) ∧ L x ≤ 1000
theorem nI_subLe {a w c : Nat} (ha : a ≤ 1000) (hw : w ≤ 3) (hc : c ≤ 1000) : nI a - nI w ≤ nI c ↔ a - w ≤ c := by
  rw [Int32.le_iff_toInt_le, pk_sub_toInt (by omega) (by omega), nI_toInt (by omega)]
  omega
theorem lvs_up {N : Nat} {A : Nat → Nat → Int32} {L : Nat → Nat} (h : lvs N A L) (j v : Nat) (hv : v ≤ 1000) : lvs N (sU A 10 j (nI v)) (va_up L j v) := by
  intro x hx
  rw [sU_same]
  by_cases e : x = j
  · subst e
    rw [pk_us, va_up_self]
    exact ⟨rfl, hv⟩
  · rw [pk_un e, va_up_ne _ _ e]
    exact h x hx
theorem spreadOver_rx {N K : Nat} {A : Nat → Nat → Int32} {L : Nat → Nat} (hN : N ≤ 30) (h : lvs N A L) {i j w : Nat} (hi : i < N) (hj : j < N) (hw : w ≤ 3) :
    (k_spreadOver N K A (nI i) (nI j) (nI w)).1 = (if rxc L i j w = true then (1 : Int32) else (0 : Int32)) ∧ eqv A (k_spreadOver N K A (nI i) (nI j) (nI w)).2 ∧ lvs N (k_spreadOver N K A (nI i) (nI j) (nI w)).2 (rx L i j w) := by
  rw [k_spreadOver, if_neg (isThing_n0 hN hi), if_neg (isThing_n0 hN hj), nI_clamp (by omega), nI_clamp (by omega), (h i hi).1, (h j hj).1]
  unfold rxc rx
  by_cases c1 : L i - w ≤ L j
  · rw [if_pos ((nI_subLe (h i hi).2 hw (h j hj).2).mpr c1), if_pos c1, if_pos c1]
    by_cases c2 : L j - w ≤ L i
    · rw [if_pos ((nI_subLe (h j hj).2 hw (h i hi).2).mpr c2), if_pos c2, if_pos c2]
      exact ⟨rfl, eqv.rf, h⟩
    · rw [if_neg (fun q => c2 ((nI_subLe (h j hj).2 hw (h i hi).2).mp q)), if_neg c2, if_neg c2, pk_sub (by omega)]
      exact ⟨rfl, eqv_sU _ _ _, lvs_up h _ _ (by have := (h j hj).2; omega)⟩
  · rw [if_neg (fun q => c1 ((nI_subLe (h i hi).2 hw (h j hj).2).mp q)), if_neg c1, if_neg c1, pk_sub (by omega)]
    exact ⟨rfl, eqv_sU _ _ _, lvs_up h _ _ (by have := (h i hi).2; omega)⟩
theorem spreadOver_m1 {N K : Nat} {A : Nat → Nat → Int32} (x w : Int32) : k_spreadOver N K A x (-1 : Int32) w = ((0 : Int32), A) := by
  rw [k_spreadOver]
  by_cases c : k_isThing N K A x = (0 : Int32)
  · rw [if_pos c]
  · rw [if_neg c, if_pos isThing_m1]
/-- the edge of a wall; of a door -/
def kw1 (N K : Nat) (A : Nat → Nat → Int32) (mk : Int32) (i : Nat) : List (Nat × Nat × Nat) := if k_wallLoss N K A (nI i) mk = (-1 : Int32) then [] else if k_spaceOf N K A (nI i) = (-1 : Int32) then [] else [(i, (k_spaceOf N K A (nI i)).toNatClampNeg, (k_wallLoss N K A (nI i) mk).toNatClampNeg)]
def kd1 (N K : Nat) (A : Nat → Nat → Int32) (mk : Int32) (i : Nat) : List (Nat × Nat × Nat) := if k_doorLoss N K A (nI i) mk = (-1 : Int32) then [] else [((A 6 i).toNatClampNeg, (A 7 i).toNatClampNeg, (k_doorLoss N K A (nI i) mk).toNatClampNeg)]
def kwl (N K : Nat) (A : Nat → Nat → Int32) (mk : Int32) : Nat → Nat → List (Nat × Nat × Nat)
  | 0, _ => []
  | k + 1, i => kw1 N K A mk i ++ kwl N K A mk k (i + 1)
def kdl (N K : Nat) (A : Nat → Nat → Int32) (mk : Int32) : Nat → Nat → List (Nat × Nat × Nat)
  | 0, _ => []
  | k + 1, i => kd1 N K A mk i ++ kdl N K A mk k (i + 1)
theorem rxs_app : ∀ (es fs : List (Nat × Nat × Nat)) (L : Nat → Nat), rxs (es ++ fs) L = rxs fs (rxs es L) := by
  intro es
  induction es with
  | nil => intro fs L; rfl
  | cons q es ih => intro fs L; exact ih fs _
theorem rxsc_app : ∀ (es fs : List (Nat × Nat × Nat)) (L : Nat → Nat) (c : Bool), rxsc (es ++ fs) L c = rxsc fs (rxs es L) (rxsc es L c) := by
  intro es
  induction es with
  | nil => intro fs L c; rfl
  | cons q es ih => intro fs L c; exact ih fs _ _
def b01 (c : Bool) : Int32 := if c = true then (1 : Int32) else (0 : Int32)
theorem b01_0 {c : Bool} : b01 c = (0 : Int32) ↔ c = false := by cases c <;> decide
theorem spread_19_rx {N K : Nat} {A0 : Nat → Nat → Int32} {mk : Int32} (hN : N ≤ 30) : ∀ (k i : Nat) (A : Nat → Nat → Int32) (L : Nat → Nat) (c : Bool), i + k = N → eqv A0 A → lvs N A L →
    eqv A0 (k_spread_19 N K mk k i A (b01 c)).1 ∧ lvs N (k_spread_19 N K mk k i A (b01 c)).1 (rxs (kwl N K A0 mk k i) L) ∧ (k_spread_19 N K mk k i A (b01 c)).2 = b01 (rxsc (kwl N K A0 mk k i) L c) := by
  intro k
  induction k with
  | zero => intro i A L c _ he hl; exact ⟨he, hl, rfl⟩
  | succ k ih =>
    intro i A L c hi he hl
    rw [k_spread_19_S, kwl, rxs_app, rxsc_app, kw1, ev_wallLoss he, ev_spaceOf he]
    by_cases c1 : k_wallLoss N K A0 (nI i) mk = (-1 : Int32)
    · rw [if_pos c1, if_pos c1]
      exact ih (i + 1) A L c (by omega) he hl
    · rw [if_neg c1, if_neg c1]
      rcases wallLoss_v (N := N) (K := K) (A := A0) (nI i) mk with e | ⟨w, hw, ew⟩
      · exact absurd e c1
      · rcases spaceOf_v (N := N) (K := K) (A := A0) hN (nI i) with e | ⟨t, ht, et⟩
        · rw [e, spreadOver_m1, if_pos rfl, if_pos rfl]
          exact ih (i + 1) A L c (by omega) he hl
        · have h0 : ¬ nI t = (-1 : Int32) := fun q => nI_pos (n := t) (by omega) (by rw [q]; decide)
          obtain ⟨h1, h2, h3⟩ := spreadOver_rx (K := K) hN hl (i := i) (j := t) (w := w) (by omega) ht (by omega)
          rw [et, ew, if_neg h0, nI_clamp (by omega), nI_clamp (by omega), h1]
          show _ ∧ _ ∧ _
          by_cases c2 : rxc L i t w = true
          · have e1 : rxsc [(i, t, w)] L c = true := by show (c || rxc L i t w) = true; rw [c2, Bool.or_true]
            rw [if_pos c2, if_neg (by decide), e1]
            exact ih (i + 1) _ _ true (by omega) (he.tr h2) h3
          · have c3 : rxc L i t w = false := by cases h : rxc L i t w with | true => exact absurd h c2 | false => rfl
            have e1 : rxsc [(i, t, w)] L c = c := by show (c || rxc L i t w) = c; rw [c3, Bool.or_false]
            rw [if_neg c2, if_pos rfl, e1]
            exact ih (i + 1) _ _ c (by omega) (he.tr h2) h3
/-- the doors lead from room to room -/
def drs (N K : Nat) (A : Nat → Nat → Int32) : Prop := ∀ d, d < K → ∃ f t : Nat, f < N ∧ t < N ∧ A 6 d = nI f ∧ A 7 d = nI t
theorem spread_71_rx {N K : Nat} {A0 : Nat → Nat → Int32} {mk : Int32} (hN : N ≤ 30) (hK : K ≤ 10) (hd : drs N K A0) : ∀ (k i : Nat) (A : Nat → Nat → Int32) (L : Nat → Nat) (c : Bool), i + k = K → eqv A0 A → lvs N A L →
    eqv A0 (k_spread_71 N K mk k i A (b01 c)).1 ∧ lvs N (k_spread_71 N K mk k i A (b01 c)).1 (rxs (kdl N K A0 mk k i) L) ∧ (k_spread_71 N K mk k i A (b01 c)).2 = b01 (rxsc (kdl N K A0 mk k i) L c) := by
  intro k
  induction k with
  | zero => intro i A L c _ he hl; exact ⟨he, hl, rfl⟩
  | succ k ih =>
    intro i A L c hi he hl
    rw [k_spread_71_S, kdl, rxs_app, rxsc_app, kd1, ev_doorLoss he, he 6 (by decide), he 7 (by decide), nI_clamp (n := i) (by omega)]
    by_cases c1 : k_doorLoss N K A0 (nI i) mk = (-1 : Int32)
    · rw [if_pos c1, if_pos c1]
      exact ih (i + 1) A L c (by omega) he hl
    · rw [if_neg c1, if_neg c1]
      rcases doorLoss_v (N := N) (K := K) (A := A0) (nI i) mk with e | ⟨w, hw, ew⟩
      · exact absurd e c1
      · obtain ⟨f, t, hf, ht, ef, et⟩ := hd i (by omega)
        obtain ⟨h1, h2, h3⟩ := spreadOver_rx (K := K) hN hl (i := f) (j := t) (w := w) hf ht hw
        rw [ef, et, ew, nI_clamp (by omega), nI_clamp (by omega), nI_clamp (by omega), h1]
        show _ ∧ _ ∧ _
        by_cases c2 : rxc L f t w = true
        · have e1 : rxsc [(f, t, w)] L c = true := by show (c || rxc L f t w) = true; rw [c2, Bool.or_true]
          rw [if_pos c2, if_neg (by decide), e1]
          exact ih (i + 1) _ _ true (by omega) (he.tr h2) h3
        · have c3 : rxc L f t w = false := by cases h : rxc L f t w with | true => exact absurd h c2 | false => rfl
          have e1 : rxsc [(f, t, w)] L c = c := by show (c || rxc L f t w) = c; rw [c3, Bool.or_false]
          rw [if_neg c2, if_pos rfl, e1]
          exact ih (i + 1) _ _ c (by omega) (he.tr h2) h3
theorem spread_4_rx {N K : Nat} {A0 : Nat → Nat → Int32} {mk : Int32} (hN : N ≤ 30) (hK : K ≤ 10) (hd : drs N K A0) : ∀ (k i : Nat) (A : Nat → Nat → Int32) (L : Nat → Nat) (c : Bool), eqv A0 A → lvs N A L →
    eqv A0 (k_spread_4 N K mk k i A (b01 c)) ∧ lvs N (k_spread_4 N K mk k i A (b01 c)) (rxr (kwl N K A0 mk N 0 ++ kdl N K A0 mk K 0) k L c) := by
  intro k
  induction k with
  | zero => intro i A L c he hl; exact ⟨he, hl⟩
  | succ k ih =>
    intro i A L c he hl
    rw [k_spread_4_S, rxr]
    by_cases c1 : c = false
    · rw [if_pos (b01_0.mpr c1), if_pos c1]
      exact ⟨he, hl⟩
    · obtain ⟨h1, h2, h3⟩ := spread_19_rx (mk := mk) hN N 0 A L false (by omega) he hl
      obtain ⟨h4, h5, h6⟩ := spread_71_rx (mk := mk) hN hK hd K 0 _ _ (rxsc (kwl N K A0 mk N 0) L false) (by omega) h1 h2
      rw [if_neg (fun q => c1 (b01_0.mp q)), if_neg c1, show (0 : Int32) = b01 false from rfl, h3, h6, rxs_app, rxsc_app]
      exact ih (i + 1) _ _ _ h4 h5
theorem spread_rx {N K : Nat} {A : Nat → Nat → Int32} {L : Nat → Nat} {mk : Int32} (hN : N ≤ 30) (hK : K ≤ 10) (hd : drs N K A) (hl : lvs N A L) :
    eqv A (k_spread N K A mk) ∧ lvs N (k_spread N K A mk) (rxr (kwl N K A mk N 0 ++ kdl N K A mk K 0) 30 L true) := spread_4_rx hN hK hd 30 0 A L true eqv.rf hl
