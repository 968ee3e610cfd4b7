/-! Chains of holders: one that ends has no more steps than there are things; a new holder that is not within keeps all of them ending. -/
theorem ch_mono {N : Nat} {f : Nat → Int32} : ∀ {k j : Nat} {v : Int32}, ch N f k v → k ≤ j → ch N f j v := by
  intro k
  induction k with
  | zero =>
    intro j v h _
    cases j with
    | zero => exact h
    | succ j => exact Or.inl h
  | succ k ih =>
    intro j v h hj
    obtain ⟨j, rfl⟩ : ∃ i, j = i + 1 := ⟨j - 1, by omega⟩
    rcases h with h | ⟨i, h1, h2, h3⟩
    · exact Or.inl h
    · exact Or.inr ⟨i, h1, h2, ih h3 (by omega)⟩
def cq (N : Nat) (f : Nat → Int32) (P : Nat → Bool) : Nat → Int32 → Prop
  | 0, v => v = (-1 : Int32)
  | k + 1, v => v = (-1 : Int32) ∨ ∃ j : Nat, P j = true ∧ j < N ∧ v = nI j ∧ cq N f P k (f j)
theorem nI_m1 {N j : Nat} (hN : N ≤ 30) (h : j < N) : ¬ nI j = (-1 : Int32) := fun q => nI_pos (n := j) (by omega) (by rw [q]; decide)
theorem cq_m1 {N : Nat} {f : Nat → Int32} {P : Nat → Bool} : ∀ k : Nat, cq N f P k (-1 : Int32) := by
  intro k
  cases k with
  | zero => rfl
  | succ k => exact Or.inl rfl
theorem cq_mono {N : Nat} {f : Nat → Int32} {P : Nat → Bool} : ∀ {k j : Nat} {v : Int32}, cq N f P k v → k ≤ j → cq N f P j v := by
  intro k
  induction k with
  | zero => intro j v h _; rw [show v = (-1 : Int32) from h]; exact cq_m1 j
  | succ k ih =>
    intro j v h hj
    obtain ⟨j, rfl⟩ : ∃ i, j = i + 1 := ⟨j - 1, by omega⟩
    rcases h with h | ⟨i, h0, h1, h2, h3⟩
    · exact Or.inl h
    · exact Or.inr ⟨i, h0, h1, h2, ih h3 (by omega)⟩
theorem cq_split {N : Nat} {f : Nat → Int32} {P : Nat → Bool} (j : Nat) : ∀ (k : Nat) (v : Int32), cq N f P k v → cq N f (gM P j) k v ∨ ∃ i, i ≤ k ∧ cq N f P i (nI j) := by
  intro k
  induction k with
  | zero => intro v h; exact Or.inl h
  | succ k ih =>
    intro v h
    rcases h with h | ⟨i, h0, h1, h2, h3⟩
    · exact Or.inl (Or.inl h)
    · by_cases e : i = j
      · subst e; exact Or.inr ⟨k + 1, Nat.le_refl _, Or.inr ⟨i, h0, h1, rfl, h3⟩⟩
      · rcases ih _ h3 with h4 | ⟨n, h4, h5⟩
        · exact Or.inl (Or.inr ⟨i, gM_of h0 e, h1, h2, h4⟩)
        · exact Or.inr ⟨n, by omega, h5⟩
theorem cq_out {N : Nat} {f : Nat → Int32} {P : Nat → Bool} (hN : N ≤ 30) {j : Nat} (hj : j < N) : ∀ (n k : Nat), k ≤ n → cq N f P k (nI j) → P j = true ∧ ∃ i, cq N f (gM P j) i (f j) := by
  intro n
  induction n with
  | zero =>
    intro k hk h
    obtain rfl : k = 0 := by omega
    exact absurd h (nI_m1 hN hj)
  | succ n ih =>
    intro k hk h
    cases k with
    | zero => exact absurd h (nI_m1 hN hj)
    | succ k =>
      rcases h with h | ⟨i, h0, h1, h2, h3⟩
      · exact absurd h (nI_m1 hN hj)
      · obtain rfl : j = i := (nI_eq (by omega) (by omega)).mp h2
        rcases cq_split j k _ h3 with h4 | ⟨i, h4, h5⟩
        · exact ⟨h0, k, h4⟩
        · exact ih i (by omega) h5
theorem cq_weak {N : Nat} {f : Nat → Int32} {P P' : Nat → Bool} (hP : ∀ i, P i = true → P' i = true) : ∀ {k : Nat} {v : Int32}, cq N f P k v → cq N f P' k v := by
  intro k
  induction k with
  | zero => intro v h; exact h
  | succ k ih =>
    intro v h
    rcases h with h | ⟨i, h0, h1, h2, h3⟩
    · exact Or.inl h
    · exact Or.inr ⟨i, hP i h0, h1, h2, ih h3⟩
theorem cq_short {N : Nat} {f : Nat → Int32} (hN : N ≤ 30) : ∀ (m : Nat) (P : Nat → Bool), gC P N ≤ m → ∀ (k : Nat) (v : Int32), cq N f P k v → cq N f P m v := by
  intro m
  induction m with
  | zero =>
    intro P hc k v h
    cases k with
    | zero => exact h
    | succ k =>
      rcases h with h | ⟨i, h0, h1, -, -⟩
      · exact h
      · have := gC_pos h0 h1
        omega
  | succ m ih =>
    intro P hc k v h
    cases k with
    | zero => exact Or.inl h
    | succ k =>
      rcases h with h | ⟨j, h0, h1, h2, h3⟩
      · exact Or.inl h
      · obtain ⟨-, i, h4⟩ := cq_out hN h1 (k + 1) (k + 1) (Nat.le_refl _) (Or.inr ⟨j, h0, h1, rfl, h3⟩)
        have h5 := gC_out h0 h1
        exact Or.inr ⟨j, h0, h1, h2, cq_weak (fun i hi => (gM_in hi).1) (ih (gM P j) (by omega) i _ h4)⟩
theorem cq_of {N : Nat} {f : Nat → Int32} : ∀ {k : Nat} {v : Int32}, ch N f k v → cq N f (fun _ => true) k v := by
  intro k
  induction k with
  | zero => intro v h; exact h
  | succ k ih =>
    intro v h
    rcases h with h | ⟨i, h1, h2, h3⟩
    · exact Or.inl h
    · exact Or.inr ⟨i, rfl, h1, h2, ih h3⟩
theorem cq_ch {N : Nat} {f : Nat → Int32} {P : Nat → Bool} : ∀ {k : Nat} {v : Int32}, cq N f P k v → ch N f k v := by
  intro k
  induction k with
  | zero => intro v h; exact h
  | succ k ih =>
    intro v h
    rcases h with h | ⟨i, h0, h1, h2, h3⟩
    · exact Or.inl h
    · exact Or.inr ⟨i, h1, h2, ih h3⟩
/-- chains that end, end within 29 steps -/
theorem ch_fin {N : Nat} {f : Nat → Int32} (hN : N ≤ 30) {j k : Nat} (hj : j < N) (h : ch N f k (f j)) : ch N f 29 (f j) := by
  have h1 : cq N f (fun _ => true) (k + 1) (nI j) := Or.inr ⟨j, rfl, hj, rfl, cq_of h⟩
  have h2 := cq_short hN N (fun _ => true) (gC_le _ N) (k + 1) _ h1
  obtain ⟨n, rfl⟩ : ∃ n, N = n + 1 := ⟨N - 1, by omega⟩
  rcases h2 with h2 | ⟨i, -, h3, h4, h5⟩
  · exact absurd h2 (nI_m1 hN hj)
  · obtain rfl : j = i := (nI_eq (by omega) (by omega)).mp h4
    exact ch_mono (cq_ch h5) (by omega)
/-- a chain that never comes to x is a chain too where x has another holder -/
theorem ch_upd_off {N : Nat} {f : Nat → Int32} {x : Nat} {w : Int32} (hN : N ≤ 30) (hx : x < N) : ∀ (k : Nat) (v : Int32), ch N f k v → (∀ n, ¬ hit N f n v (nI x)) → ch N (upd f x w) k v := by
  intro k
  induction k with
  | zero => intro v h _; exact h
  | succ k ih =>
    intro v h hh
    rcases h with h | ⟨j, h1, h2, h3⟩
    · exact Or.inl h
    · have hne : j ≠ x := fun e => hh 1 (Or.inl (by rw [h2, e]))
      refine Or.inr ⟨j, h1, h2, ?_⟩
      rw [pk_un hne]
      exact ih _ h3 (fun n hn => hh (n + 1) (Or.inr ⟨j, h1, h2, hn⟩))
theorem ch_upd {N : Nat} {f : Nat → Int32} {x : Nat} {w : Int32} (hN : N ≤ 30) {m : Nat} (hw : ch N (upd f x w) m w) : ∀ (k : Nat) (v : Int32), ch N f k v → ∃ n, ch N (upd f x w) n v := by
  intro k
  induction k with
  | zero => intro v h; exact ⟨0, h⟩
  | succ k ih =>
    intro v h
    rcases h with h | ⟨j, h1, h2, h3⟩
    · exact ⟨0, h⟩
    · by_cases e : j = x
      · subst e
        exact ⟨m + 1, Or.inr ⟨j, h1, h2, by rw [pk_us]; exact hw⟩⟩
      · obtain ⟨n, hn⟩ := ih _ h3
        exact ⟨n + 1, Or.inr ⟨j, h1, h2, by rw [pk_un e]; exact hn⟩⟩
theorem chs_upd {N : Nat} {B : Nat → Nat → Int32} {x : Nat} {w : Int32} (hN : N ≤ 30) (hC : chs N B) (hx : x < N) (hw : w = (-1 : Int32) ∨ ∃ j : Nat, j < N ∧ w = nI j ∧ ∀ n, ¬ hit N (B 1) n w (nI x)) : chs N (sU B 1 x w) := by
  have h0 : ∃ m, ch N (upd (B 1) x w) m w := by
    rcases hw with h | ⟨j, h1, h2, h3⟩
    · exact ⟨0, h⟩
    · exact ⟨30, ch_upd_off hN hx 30 w (Or.inr ⟨j, h1, h2, (hC j h1).2⟩) h3⟩
  obtain ⟨m, hm⟩ := h0
  intro j hj
  rw [sU_same]
  refine ⟨by omega, ?_⟩
  by_cases e : j = x
  · subst e
    have : upd (B 1) j w j = w := pk_us
    refine ch_fin hN hj (k := m) ?_
    rw [this]; exact hm
  · obtain ⟨n, hn⟩ := ch_upd hN hm 29 _ (hC j hj).2
    refine ch_fin hN hj (k := n) ?_
    rw [pk_un e]; exact hn
/-- not within: never hit -/
theorem hit_not {N K : Nat} {B Q : Nat → Nat → Int32} {y : Int32} (hN : N ≤ 30) : ∀ (k : Nat) (v : Int32), chp N (B 1) k v → ¬ y = (-1 : Int32) → m_isWithin_7 N K B Q y k v = (0 : Int32) → ∀ n, ¬ hit N (B 1) n v y := by
  intro k
  induction k with
  | zero => intro v hc; exact absurd hc chp_0
  | succ k ih =>
    intro v hc hy h n hn
    rw [m_isWithin_7_S] at h
    have hvy : ¬ v = y := by
      intro e
      by_cases c1 : v = (-1 : Int32)
      · exact hy (e ▸ c1)
      · rw [if_neg c1, if_pos e, if_neg hy] at h
        exact absurd h (by decide)
    cases n with
    | zero => exact hn
    | succ n =>
      rcases hn with hn | ⟨j, h1, h2, h3⟩
      · exact hvy hn
      · have c1 : ¬ v = (-1 : Int32) := by rw [h2]; exact nI_m1 hN h1
        rw [if_neg c1, if_neg hvy] at h
        have h4 := chp_next hN hc c1
        have e : B 1 v.toNatClampNeg = B 1 j := by rw [h2, nI_clamp (by omega)]
        rw [e] at h h4
        exact ih _ h4 hy h n h3
