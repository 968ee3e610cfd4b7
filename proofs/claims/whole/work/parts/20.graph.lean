/-! Levels on a graph: what is attained over at most k steps; no more steps are needed than there are places, less one. -/
def gA (E : Nat → Nat → Nat → Prop) (L0 : Nat → Nat) (P : Nat → Bool) : Nat → Nat → Nat → Prop
  | 0, x, v => P x = true ∧ v = L0 x
  | k + 1, x, v => gA E L0 P k x v ∨ (P x = true ∧ ∃ y w u, E y x w ∧ gA E L0 P k y u ∧ v = u - w)
def gM (P : Nat → Bool) (x : Nat) : Nat → Bool := fun i => P i && !(i == x)
def gC (P : Nat → Bool) : Nat → Nat
  | 0 => 0
  | n + 1 => gC P n + (if P n = true then 1 else 0)
section GR
variable {E : Nat → Nat → Nat → Prop} {L0 : Nat → Nat}
theorem gA_mono {P : Nat → Bool} {k j x v : Nat} (h : gA E L0 P k x v) (hkj : k ≤ j) : gA E L0 P j x v := by
  induction j with
  | zero => obtain rfl : k = 0 := by omega
            exact h
  | succ j ih =>
    by_cases e : k = j + 1
    · subst e; exact h
    · exact Or.inl (ih (by omega))
theorem gA_P {P : Nat → Bool} : ∀ {k x v : Nat}, gA E L0 P k x v → P x = true := by
  intro k
  induction k with
  | zero => intro x v h; exact h.1
  | succ k ih =>
    intro x v h
    rcases h with h | h
    · exact ih h
    · exact h.1
theorem gA_weak {P P' : Nat → Bool} (hP : ∀ i, P i = true → P' i = true) : ∀ {k x v : Nat}, gA E L0 P k x v → gA E L0 P' k x v := by
  intro k
  induction k with
  | zero => intro x v h; exact ⟨hP _ h.1, h.2⟩
  | succ k ih =>
    intro x v h
    rcases h with h | ⟨h1, y, w, u, h2, h3, h4⟩
    · exact Or.inl (ih h)
    · exact Or.inr ⟨hP _ h1, y, w, u, h2, ih h3, h4⟩
theorem gM_in {P : Nat → Bool} {x i : Nat} (h : gM P x i = true) : P i = true ∧ i ≠ x := by
  unfold gM at h
  rw [Bool.and_eq_true] at h
  refine ⟨h.1, fun e => ?_⟩
  subst e
  simp at h
theorem gM_of {P : Nat → Bool} {x i : Nat} (h : P i = true) (hx : i ≠ x) : gM P x i = true := by
  unfold gM
  rw [Bool.and_eq_true]
  exact ⟨h, by simp [hx]⟩
theorem gA_avoid {P : Nat → Bool} (x : Nat) : ∀ (k y u : Nat), gA E L0 P k y u → gA E L0 (gM P x) k y u ∨ ∃ u', u ≤ u' ∧ gA E L0 P k x u' := by
  intro k
  induction k with
  | zero =>
    intro y u h
    by_cases e : y = x
    · subst e; exact Or.inr ⟨u, Nat.le_refl _, h⟩
    · exact Or.inl ⟨gM_of h.1 e, h.2⟩
  | succ k ih =>
    intro y u h
    by_cases e : y = x
    · subst e; exact Or.inr ⟨u, Nat.le_refl _, h⟩
    · rcases h with h | ⟨h1, z, w, u0, h2, h3, h4⟩
      · rcases ih y u h with h | ⟨u', h5, h6⟩
        · exact Or.inl (Or.inl h)
        · exact Or.inr ⟨u', h5, Or.inl h6⟩
      · rcases ih z u0 h3 with h | ⟨u', h5, h6⟩
        · exact Or.inl (Or.inr ⟨gM_of h1 e, z, w, u0, h2, h, h4⟩)
        · exact Or.inr ⟨u', by omega, Or.inl h6⟩
theorem gA_step {P : Nat → Bool} (x : Nat) : ∀ (k v : Nat), gA E L0 P k x v → v ≤ L0 x ∨ ∃ y w u, E y x w ∧ gA E L0 (gM P x) k y u ∧ v ≤ u - w := by
  intro k
  induction k with
  | zero => intro v h; exact Or.inl (Nat.le_of_eq h.2)
  | succ k ih =>
    intro v h
    rcases h with h | ⟨h1, y, w, u, h2, h3, h4⟩
    · rcases ih v h with h | ⟨y, w, u, h2, h3, h4⟩
      · exact Or.inl h
      · exact Or.inr ⟨y, w, u, h2, Or.inl h3, h4⟩
    · rcases gA_avoid x k y u h3 with h | ⟨u', h5, h6⟩
      · exact Or.inr ⟨y, w, u, h2, Or.inl h, Nat.le_of_eq h4⟩
      · rcases ih u' h6 with h | ⟨y', w', u2, h7, h8, h9⟩
        · exact Or.inl (by omega)
        · exact Or.inr ⟨y', w', u2, h7, Or.inl h8, by omega⟩
end GR
theorem gC_eq {P P' : Nat → Bool} : ∀ {n : Nat}, (∀ i, i < n → P i = P' i) → gC P n = gC P' n := by
  intro n
  induction n with
  | zero => intro _; rfl
  | succ n ih =>
    intro h
    rw [gC, gC, ih (fun i hi => h i (by omega)), h n (by omega)]
theorem gC_out {P : Nat → Bool} {x : Nat} (hx : P x = true) : ∀ {n : Nat}, x < n → gC (gM P x) n + 1 = gC P n := by
  intro n
  induction n with
  | zero => intro h; omega
  | succ n ih =>
    intro h
    rw [gC, gC]
    by_cases e : x = n
    · subst e
      have h1 : gC (gM P x) x = gC P x := gC_eq (fun i hi => by
        unfold gM
        simp [show ¬ i = x by omega])
      have h2 : gM P x x = false := by unfold gM; simp
      rw [h1, h2, hx]
      simp
    · have h1 := ih (by omega)
      have h2 : gM P x n = P n := by unfold gM; simp [show ¬ n = x by omega]
      rw [h2]
      omega
theorem gC_pos {P : Nat → Bool} {x n : Nat} (hx : P x = true) (h : x < n) : 1 ≤ gC P n := by
  have := gC_out hx h
  omega
theorem gC_le (P : Nat → Bool) : ∀ n : Nat, gC P n ≤ n := by
  intro n
  induction n with
  | zero => exact Nat.le_refl _
  | succ n ih =>
    rw [gC]
    by_cases h : P n = true
    · rw [if_pos h]; omega
    · rw [if_neg h]; omega
theorem gA_short {E : Nat → Nat → Nat → Prop} {L0 : Nat → Nat} {N : Nat} : ∀ (m : Nat) (P : Nat → Bool), gC P N ≤ m + 1 → (∀ i, P i = true → i < N) → ∀ (k x v : Nat), gA E L0 P k x v → ∃ v', v ≤ v' ∧ gA E L0 P m x v' := by
  intro m
  induction m with
  | zero =>
    intro P hc hN k x v h
    have hx := gA_P h
    rcases gA_step x k v h with h | ⟨y, w, u, h1, h2, h3⟩
    · exact ⟨L0 x, h, hx, rfl⟩
    · have h4 := gC_out hx (hN x hx)
      have hy := gA_P h2
      have h5 := gC_pos hy (hN y (gM_in hy).1)
      omega
  | succ m ih =>
    intro P hc hN k x v h
    have hx := gA_P h
    rcases gA_step x k v h with h | ⟨y, w, u, h1, h2, h3⟩
    · exact ⟨L0 x, h, gA_mono (k := 0) ⟨hx, rfl⟩ (by omega)⟩
    · have h4 := gC_out hx (hN x hx)
      obtain ⟨u', h5, h6⟩ := ih (gM P x) (by omega) (fun i hi => hN i (gM_in hi).1) k y u h2
      exact ⟨u' - w, by omega, Or.inr ⟨hx, y, w, u', h1, gA_weak (fun i hi => (gM_in hi).1) h6, rfl⟩⟩
/-- what the levels must be: attained, not under the start, and no step would raise one -/
def gOK (E : Nat → Nat → Nat → Prop) (L0 : Nat → Nat) (P : Nat → Bool) (L : Nat → Nat) : Prop :=
  (∀ x, P x = true → ∃ k, gA E L0 P k x (L x)) ∧ (∀ x, P x = true → L0 x ≤ L x) ∧ ∀ y x w, P y = true → P x = true → E y x w → L y - w ≤ L x
theorem gA_ub {E : Nat → Nat → Nat → Prop} {L0 : Nat → Nat} {P : Nat → Bool} {L : Nat → Nat} (h0 : ∀ x, P x = true → L0 x ≤ L x) (hc : ∀ y x w, P y = true → P x = true → E y x w → L y - w ≤ L x) : ∀ (k x v : Nat), gA E L0 P k x v → v ≤ L x := by
  intro k
  induction k with
  | zero => intro x v h; rw [h.2]; exact h0 x h.1
  | succ k ih =>
    intro x v h
    rcases h with h | ⟨h1, y, w, u, h2, h3, h4⟩
    · exact ih x v h
    · have h5 := ih y u h3
      have h6 := hc y x w (gA_P h3) h1 h2
      omega
theorem gOK_uniq {E : Nat → Nat → Nat → Prop} {L0 : Nat → Nat} {P : Nat → Bool} {L L' : Nat → Nat} (h : gOK E L0 P L) (h' : gOK E L0 P L') {x : Nat} (hx : P x = true) : L x = L' x := by
  obtain ⟨k, hk⟩ := h.1 x hx
  obtain ⟨j, hj⟩ := h'.1 x hx
  exact Nat.le_antisymm (gA_ub h'.2.1 h'.2.2 k x _ hk) (gA_ub h.2.1 h.2.2 j x _ hj)
/-- attained, not under the start, and at least all that r steps attain: with r + 1 at least the number of places, these are the levels -/
theorem gOK_of {E : Nat → Nat → Nat → Prop} {L0 : Nat → Nat} {P : Nat → Bool} {L : Nat → Nat} {N r : Nat} (hN : ∀ i, P i = true → i < N) (hr : N ≤ r + 1) (ha : ∀ x, P x = true → ∃ k, gA E L0 P k x (L x)) (hb : ∀ x v, gA E L0 P r x v → v ≤ L x) : gOK E L0 P L := by
  refine ⟨ha, fun x hx => hb x _ (gA_mono (k := 0) ⟨hx, rfl⟩ (Nat.zero_le _)), fun y x w hy hx he => ?_⟩
  obtain ⟨k, hk⟩ := ha y hy
  obtain ⟨v', h1, h2⟩ := gA_short r P (Nat.le_trans (gC_le P N) hr) hN (k + 1) x (L y - w) (Or.inr ⟨hx, y, w, L y, he, hk, rfl⟩)
  exact Nat.le_trans h1 (hb x v' h2)
/-! Relaxing edges one after another. -/
def rx (L : Nat → Nat) (i j w : Nat) : (Nat → Nat) := if L i - w ≤ L j then (if L j - w ≤ L i then L else va_up L i (L j - w)) else va_up L j (L i - w)
def rxc (L : Nat → Nat) (i j w : Nat) : Bool := if L i - w ≤ L j then (if L j - w ≤ L i then false else true) else true
def rxs : List (Nat × Nat × Nat) → (Nat → Nat) → (Nat → Nat)
  | [], L => L
  | q :: es, L => rxs es (rx L q.1 q.2.1 q.2.2)
def rxsc : List (Nat × Nat × Nat) → (Nat → Nat) → Bool → Bool
  | [], _, c => c
  | q :: es, L, c => rxsc es (rx L q.1 q.2.1 q.2.2) (c || rxc L q.1 q.2.1 q.2.2)
theorem rx_le (L : Nat → Nat) (i j w x : Nat) : L x ≤ rx L i j w x := by
  unfold rx
  by_cases h1 : L i - w ≤ L j
  · rw [if_pos h1]
    by_cases h2 : L j - w ≤ L i
    · rw [if_pos h2]; exact Nat.le_refl _
    · rw [if_neg h2]
      by_cases e : x = i
      · subst e; rw [va_up_self]; omega
      · rw [va_up_ne _ _ e]; exact Nat.le_refl _
  · rw [if_neg h1]
    by_cases e : x = j
    · subst e; rw [va_up_self]; omega
    · rw [va_up_ne _ _ e]; exact Nat.le_refl _
theorem rx_j (L : Nat → Nat) (i j w : Nat) : L i - w ≤ rx L i j w j ∧ L j - w ≤ rx L i j w i := by
  unfold rx
  by_cases h1 : L i - w ≤ L j
  · rw [if_pos h1]
    by_cases h2 : L j - w ≤ L i
    · rw [if_pos h2]; exact ⟨h1, h2⟩
    · rw [if_neg h2]
      refine ⟨?_, by rw [va_up_self]; exact Nat.le_refl _⟩
      by_cases e : j = i
      · subst e; rw [va_up_self]; omega
      · rw [va_up_ne _ _ e]; exact h1
  · rw [if_neg h1]
    refine ⟨by rw [va_up_self]; exact Nat.le_refl _, ?_⟩
    by_cases e : i = j
    · subst e; rw [va_up_self]; omega
    · rw [va_up_ne _ _ e]; omega
theorem rx_c {L : Nat → Nat} {i j w : Nat} (h : rxc L i j w = false) : rx L i j w = L := by
  unfold rxc at h
  unfold rx
  by_cases h1 : L i - w ≤ L j
  · rw [if_pos h1] at h ⊢
    by_cases h2 : L j - w ≤ L i
    · rw [if_pos h2]
    · rw [if_neg h2] at h; cases h
  · rw [if_neg h1] at h; cases h
theorem rxs_le : ∀ (es : List (Nat × Nat × Nat)) (L : Nat → Nat) (x : Nat), L x ≤ rxs es L x := by
  intro es
  induction es with
  | nil => intro L x; exact Nat.le_refl _
  | cons q es ih => intro L x; exact Nat.le_trans (rx_le L _ _ _ x) (ih _ x)
theorem rxs_j : ∀ (es : List (Nat × Nat × Nat)) (L : Nat → Nat) (q : Nat × Nat × Nat), q ∈ es → L q.1 - q.2.2 ≤ rxs es L q.2.1 ∧ L q.2.1 - q.2.2 ≤ rxs es L q.1 := by
  intro es
  induction es with
  | nil => intro L q h; cases h
  | cons p es ih =>
    intro L q h
    rcases List.mem_cons.mp h with rfl | h
    · have h1 := rx_j L q.1 q.2.1 q.2.2
      exact ⟨Nat.le_trans h1.1 (rxs_le es _ _), Nat.le_trans h1.2 (rxs_le es _ _)⟩
    · have h1 := ih (rx L p.1 p.2.1 p.2.2) q h
      have h2 := rx_le L p.1 p.2.1 p.2.2 q.1
      have h3 := rx_le L p.1 p.2.1 p.2.2 q.2.1
      have h4 : L q.1 - q.2.2 ≤ rx L p.1 p.2.1 p.2.2 q.1 - q.2.2 := Nat.sub_le_sub_right h2 _
      have h5 : L q.2.1 - q.2.2 ≤ rx L p.1 p.2.1 p.2.2 q.2.1 - q.2.2 := Nat.sub_le_sub_right h3 _
      exact ⟨Nat.le_trans h4 h1.1, Nat.le_trans h5 h1.2⟩
theorem rxsc_t : ∀ (es : List (Nat × Nat × Nat)) (L : Nat → Nat), rxsc es L true = true := by
  intro es
  induction es with
  | nil => intro L; rfl
  | cons q es ih => intro L; exact ih _
theorem rxsc_f : ∀ (es : List (Nat × Nat × Nat)) (L : Nat → Nat) (c : Bool), rxsc es L c = false → c = false ∧ rxs es L = L := by
  intro es
  induction es with
  | nil => intro L c h; exact ⟨h, rfl⟩
  | cons q es ih =>
    intro L c h
    obtain ⟨h1, h2⟩ := ih _ _ h
    rw [Bool.or_eq_false_iff] at h1
    have h3 := rx_c h1.2
    refine ⟨h1.1, ?_⟩
    show rxs es (rx L q.1 q.2.1 q.2.2) = L
    rw [h2, h3]
theorem rx_att {E : Nat → Nat → Nat → Prop} {L0 : Nat → Nat} {P : Nat → Bool} {L : Nat → Nat} {i j w : Nat} (hL : ∀ x, P x = true → ∃ k, gA E L0 P k x (L x)) (hi : P i = true) (hj : P j = true) (h1 : E i j w) (h2 : E j i w) : ∀ x, P x = true → ∃ k, gA E L0 P k x (rx L i j w x) := by
  intro x hx
  unfold rx
  by_cases c1 : L i - w ≤ L j
  · rw [if_pos c1]
    by_cases c2 : L j - w ≤ L i
    · rw [if_pos c2]; exact hL x hx
    · rw [if_neg c2]
      by_cases e : x = i
      · subst e
        rw [va_up_self]
        obtain ⟨k, hk⟩ := hL j hj
        exact ⟨k + 1, Or.inr ⟨hx, j, w, L j, h2, hk, rfl⟩⟩
      · rw [va_up_ne _ _ e]; exact hL x hx
  · rw [if_neg c1]
    by_cases e : x = j
    · subst e
      rw [va_up_self]
      obtain ⟨k, hk⟩ := hL i hi
      exact ⟨k + 1, Or.inr ⟨hx, i, w, L i, h1, hk, rfl⟩⟩
    · rw [va_up_ne _ _ e]; exact hL x hx
theorem rxs_att {E : Nat → Nat → Nat → Prop} {L0 : Nat → Nat} {P : Nat → Bool} : ∀ (es : List (Nat × Nat × Nat)) (L : Nat → Nat), (∀ x, P x = true → ∃ k, gA E L0 P k x (L x)) → (∀ q ∈ es, P q.1 = true ∧ P q.2.1 = true ∧ E q.1 q.2.1 q.2.2 ∧ E q.2.1 q.1 q.2.2) → ∀ x, P x = true → ∃ k, gA E L0 P k x (rxs es L x) := by
  intro es
  induction es with
  | nil => intro L hL _; exact hL
  | cons q es ih =>
    intro L hL h
    obtain ⟨h1, h2, h3, h4⟩ := h q List.mem_cons_self
    exact ih _ (rx_att hL h1 h2 h3 h4) (fun r hr => h r (List.mem_cons_of_mem _ hr))
/-- k passes more, ended by a pass that changes nothing -/
def rxr (es : List (Nat × Nat × Nat)) : Nat → (Nat → Nat) → Bool → (Nat → Nat)
  | 0, L, _ => L
  | k + 1, L, c => if c = false then L else rxr es k (rxs es L) (rxsc es L false)
theorem rxr_ok {E : Nat → Nat → Nat → Prop} {L0 : Nat → Nat} {P : Nat → Bool} {N : Nat} (hN : ∀ i, P i = true → i < N) {es : List (Nat × Nat × Nat)} (hE : ∀ y x w, P y = true → P x = true → E y x w → ∃ q ∈ es, q.2.2 = w ∧ ((q.1 = y ∧ q.2.1 = x) ∨ (q.1 = x ∧ q.2.1 = y))) (hes : ∀ q ∈ es, P q.1 = true ∧ P q.2.1 = true ∧ E q.1 q.2.1 q.2.2 ∧ E q.2.1 q.1 q.2.2) :
    ∀ (k r : Nat) (L : Nat → Nat) (c : Bool), N ≤ r + k + 1 → (∀ x, P x = true → ∃ k, gA E L0 P k x (L x)) → (∀ x v, gA E L0 P r x v → v ≤ L x) → (c = false → ∀ y x w, P y = true → P x = true → E y x w → L y - w ≤ L x) → gOK E L0 P (rxr es k L c) := by
  have step : ∀ (L : Nat → Nat) (y x w : Nat), P y = true → P x = true → E y x w → L y - w ≤ rxs es L x := by
    intro L y x w hy hx he
    obtain ⟨q, hq, e1, e2⟩ := hE y x w hy hx he
    have h := rxs_j es L q hq
    rw [e1] at h
    rcases e2 with ⟨e2, e3⟩ | ⟨e2, e3⟩
    · rw [e2, e3] at h; exact h.1
    · rw [e2, e3] at h; exact h.2
  intro k
  induction k with
  | zero => intro r L c hr ha hb _; exact gOK_of hN (by omega) ha hb
  | succ k ih =>
    intro r L c hr ha hb hc
    rw [rxr]
    by_cases e : c = false
    · rw [if_pos e]
      exact ⟨ha, fun x hx => hb x _ (gA_mono (k := 0) ⟨hx, rfl⟩ (Nat.zero_le _)), hc e⟩
    · rw [if_neg e]
      refine ih (r + 1) _ _ (by omega) (rxs_att es L ha hes) (fun x v h => ?_) (fun e2 => ?_)
      · rcases h with h | ⟨h1, y, w, u, h2, h3, h4⟩
        · exact Nat.le_trans (hb x v h) (rxs_le es L x)
        · have h5 := hb y u h3
          have h6 := step L y x w (gA_P h3) h1 h2
          omega
      · intro y x w hy hx he
        have h7 := step L y x w hy hx he
        rw [(rxsc_f es L false e2).2] at h7 ⊢
        exact h7
