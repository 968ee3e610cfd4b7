/-! Losses between all places: joined edges, then every place as a way station. -/
def El (es : List (Nat × Nat × Nat)) (y x w : Nat) : Prop := ∃ q ∈ es, q.2.2 = w ∧ ((q.1 = y ∧ q.2.1 = x) ∨ (q.1 = x ∧ q.2.1 = y))
theorem El_sym {es : List (Nat × Nat × Nat)} {y x w : Nat} (h : El es y x w) : El es x y w := by
  obtain ⟨q, h1, h2, h3⟩ := h
  exact ⟨q, h1, h2, h3.symm⟩
def wk (E : Nat → Nat → Nat → Prop) : Nat → Nat → Nat → Nat → Prop
  | 0, a, b, w => a = b ∧ w = 0
  | k + 1, a, b, w => ∃ c w1 w2, wk E k a c w1 ∧ E c b w2 ∧ w = w1 + w2
section FW
variable {E : Nat → Nat → Nat → Prop}
theorem wk_app : ∀ (j k : Nat) {a c b w1 w2 : Nat}, wk E k a c w1 → wk E j c b w2 → wk E (k + j) a b (w1 + w2) := by
  intro j
  induction j with
  | zero =>
    intro k a c b w1 w2 h1 h2
    obtain ⟨rfl, rfl⟩ := h2
    exact h1
  | succ j ih =>
    intro k a c b w1 w2 h1 h2
    obtain ⟨d, u1, u2, g1, g2, rfl⟩ := h2
    exact ⟨d, w1 + u1, u2, ih k h1 g1, g2, by omega⟩
theorem wk_rev (hE : ∀ y x w, E y x w → E x y w) : ∀ (k : Nat) {a b w : Nat}, wk E k a b w → wk E k b a w := by
  intro k
  induction k with
  | zero => intro a b w h; exact ⟨h.1.symm, h.2⟩
  | succ k ih =>
    intro a b w h
    obtain ⟨c, w1, w2, h1, h2, rfl⟩ := h
    have h3 : wk E 1 b c w2 := ⟨b, 0, w2, ⟨rfl, rfl⟩, hE _ _ _ h2, by omega⟩
    have h4 := wk_app k 1 h3 (ih h1)
    rw [Nat.add_comm 1 k, Nat.add_comm w2 w1] at h4
    exact h4
/-- over a walk the level that comes is at least so much -/
theorem wk_gA {L0 : Nat → Nat} {P : Nat → Bool} (hE : ∀ y x w, E y x w → P y = true ∧ P x = true) {a : Nat} (ha : P a = true) : ∀ (k : Nat) {b w : Nat}, wk E k a b w → gA E L0 P k b (L0 a - w) := by
  intro k
  induction k with
  | zero => intro b w h; obtain ⟨rfl, rfl⟩ := h; exact ⟨ha, by omega⟩
  | succ k ih =>
    intro b w h
    obtain ⟨c, w1, w2, h1, h2, rfl⟩ := h
    exact Or.inr ⟨(hE _ _ _ h2).2, c, w2, L0 a - w1, h2, ih h1, by omega⟩
/-- losses as they must be -/
def fwOK (N : Nat) (E : Nat → Nat → Nat → Prop) (D : Nat → Nat → Nat) : Prop :=
  (∀ a, a < N → D a a = 0) ∧ (∀ a b c, a < N → b < N → c < N → D a b ≤ D a c + D c b) ∧ (∀ a b w, a < N → b < N → E a b w → D a b ≤ w) ∧ (∀ a b, a < N → b < N → D a b < 1000 → ∃ k, wk E k a b (D a b)) ∧ ∀ a b, a < N → b < N → D a b ≤ 1000
theorem fwOK_walk {N : Nat} {D : Nat → Nat → Nat} (h : fwOK N E D) (hE : ∀ y x w, E y x w → y < N ∧ x < N) {a : Nat} (ha : a < N) : ∀ (k : Nat) {b w : Nat}, wk E k a b w → b < N ∧ D a b ≤ w := by
  intro k
  induction k with
  | zero => intro b w h2; obtain ⟨rfl, rfl⟩ := h2; exact ⟨ha, Nat.le_of_eq (h.1 a ha)⟩
  | succ k ih =>
    intro b w h2
    obtain ⟨c, w1, w2, h3, h4, rfl⟩ := h2
    obtain ⟨hc, h5⟩ := ih h3
    have hb := (hE _ _ _ h4).2
    have h6 := h.2.1 a b c ha hb hc
    have h7 := h.2.2.1 c b w2 hc hb h4
    exact ⟨hb, by omega⟩
theorem fwOK_sym {N : Nat} {D : Nat → Nat → Nat} (h : fwOK N E D) (hE : ∀ y x w, E y x w → y < N ∧ x < N) (hS : ∀ y x w, E y x w → E x y w) {a b : Nat} (ha : a < N) (hb : b < N) : D a b = D b a := by
  have le : ∀ a b, a < N → b < N → D a b ≤ D b a := by
    intro a b ha hb
    by_cases c : D b a < 1000
    · obtain ⟨k, hk⟩ := h.2.2.2.1 b a hb ha c
      exact (fwOK_walk h hE ha k (wk_rev hS k hk)).2
    · have := h.2.2.2.2 a b ha hb
      omega
  exact Nat.le_antisymm (le a b ha hb) (le b a hb ha)
def fwp (D : Nat → Nat → Nat) (m : Nat) : Nat → Nat → Nat := fun a b => if D a b ≤ D a m + D m b then D a b else D a m + D m b
def fws (D : Nat → Nat → Nat) : Nat → Nat → (Nat → Nat → Nat)
  | 0, _ => D
  | k + 1, m => fws (fwp D m) k (m + 1)
theorem fwp_le (D : Nat → Nat → Nat) (m a b : Nat) : fwp D m a b ≤ D a b ∧ fwp D m a b ≤ D a m + D m b := by
  unfold fwp
  by_cases c : D a b ≤ D a m + D m b
  · rw [if_pos c]; exact ⟨Nat.le_refl _, c⟩
  · rw [if_neg c]; exact ⟨by omega, Nat.le_refl _⟩
theorem fwp_or (D : Nat → Nat → Nat) (m a b : Nat) : fwp D m a b = D a b ∨ fwp D m a b = D a m + D m b := by
  unfold fwp
  by_cases c : D a b ≤ D a m + D m b
  · rw [if_pos c]; exact Or.inl rfl
  · rw [if_neg c]; exact Or.inr rfl
/-- before the phases: what holds of the joined edges; at phase m it holds, and the triangle over all places below m -/
def fwI2 (N : Nat) (E : Nat → Nat → Nat → Prop) (D : Nat → Nat → Nat) (m : Nat) : Prop :=
  (∀ a, a < N → D a a = 0) ∧ (∀ a b c, a < N → b < N → c < m → D a b ≤ D a c + D c b) ∧ (∀ a b w, a < N → b < N → E a b w → D a b ≤ w) ∧ (∀ a b, a < N → b < N → D a b < 1000 → ∃ k, wk E k a b (D a b)) ∧ ∀ a b, a < N → b < N → D a b ≤ 1000
theorem fwI2_step {N m : Nat} {D : Nat → Nat → Nat} (hm : m < N) (h : fwI2 N E D m) : fwI2 N E (fwp D m) (m + 1) := by
  obtain ⟨h0, ht, he, ha, hb⟩ := h
  have hmm := h0 m hm
  have colm : ∀ a, fwp D m a m = D a m := fun a => by
    rcases fwp_or D m a m with e | e
    · exact e
    · rw [e, hmm]; omega
  have rowm : ∀ b, fwp D m m b = D m b := fun b => by
    rcases fwp_or D m m b with e | e
    · exact e
    · rw [e, hmm]; omega
  refine ⟨fun a ha => ?_, fun a b c ha' hb' hc => ?_, fun a b w ha' hb' hE => ?_, fun a b ha' hb' hlt => ?_, fun a b ha' hb' => ?_⟩
  · have := (fwp_le D m a a).1
    rw [h0 a ha] at this
    omega
  · by_cases e : c = m
    · subst e
      rw [colm, rowm]
      exact (fwp_le D c a b).2
    · have hcm : c < m := by omega
      have hcN : c < N := by omega
      have t1 := fwp_le D m a b
      have t2 := ht a b c ha' hb' hcm
      have t3 := ht m b c hm hb' hcm
      have t4 := ht a m c ha' hm hcm
      rcases fwp_or D m a c with e1 | e1 <;> rcases fwp_or D m c b with e2 | e2 <;> rw [e1, e2] <;> omega
  · exact Nat.le_trans (fwp_le D m a b).1 (he a b w ha' hb' hE)
  · rcases fwp_or D m a b with e | e
    · rw [e] at hlt ⊢; exact ha a b ha' hb' hlt
    · rw [e] at hlt ⊢
      obtain ⟨k1, g1⟩ := ha a m ha' hm (by omega)
      obtain ⟨k2, g2⟩ := ha m b hm hb' (by omega)
      exact ⟨k1 + k2, wk_app k2 k1 g1 g2⟩
  · exact Nat.le_trans (fwp_le D m a b).1 (hb a b ha' hb')
theorem fws_ok {N : Nat} : ∀ (k m : Nat) (D : Nat → Nat → Nat), m + k = N → fwI2 N E D m → fwOK N E (fws D k m) := by
  intro k
  induction k with
  | zero =>
    intro m D hm h
    obtain rfl : m = N := by omega
    exact ⟨h.1, fun a b c ha hb hc => h.2.1 a b c ha hb hc, h.2.2⟩
  | succ k ih =>
    intro m D hm h
    exact ih (m + 1) (fwp D m) (by omega) (fwI2_step (by omega) h)
end FW
/-- joining an edge -/
def jn (D : Nat → Nat → Nat) (a b w : Nat) : Nat → Nat → Nat := fun p q => if (p = a ∧ q = b) ∨ (p = b ∧ q = a) then (if D a b ≤ w then D a b else w) else D p q
def jns : List (Nat × Nat × Nat) → (Nat → Nat → Nat) → (Nat → Nat → Nat)
  | [], D => D
  | q :: es, D => jns es (jn D q.1 q.2.1 q.2.2)
def d0 : Nat → Nat → Nat := fun a b => if a = b then 0 else 1000
/-- what holds while edges are joined: es are those joined so far -/
def jI (N : Nat) (es : List (Nat × Nat × Nat)) (D : Nat → Nat → Nat) : Prop :=
  (∀ a, a < N → D a a = 0) ∧ (∀ a b, D a b = D b a) ∧ (∀ a b w, El es a b w → D a b ≤ w) ∧ (∀ a b, D a b < 1000 → a = b ∨ El es a b (D a b)) ∧ ∀ a b, D a b ≤ 1000
theorem jI_0 (N : Nat) : jI N [] d0 := by
  refine ⟨fun a _ => if_pos rfl, fun a b => ?_, fun a b w h => ?_, fun a b h => ?_, fun a b => ?_⟩
  · unfold d0
    by_cases e : a = b
    · rw [if_pos e, if_pos e.symm]
    · rw [if_neg e, if_neg (fun q => e q.symm)]
  · obtain ⟨q, h1, -⟩ := h; cases h1
  · unfold d0 at h
    by_cases e : a = b
    · exact Or.inl e
    · rw [if_neg e] at h; omega
  · unfold d0
    by_cases e : a = b
    · rw [if_pos e]; omega
    · rw [if_neg e]; omega
theorem jI_S {N : Nat} {es : List (Nat × Nat × Nat)} {D : Nat → Nat → Nat} (h : jI N es D) {a b w : Nat} (hab : a ≠ b) (hw : w < 1000) : jI N (es ++ [(a, b, w)]) (jn D a b w) := by
  obtain ⟨h0, hs, he, ha, hb⟩ := h
  have val : ∀ p q, jn D a b w p q = D p q ∨ (jn D a b w p q = w ∧ w ≤ D p q ∧ ((p = a ∧ q = b) ∨ (p = b ∧ q = a))) := by
    intro p q
    unfold jn
    by_cases c : (p = a ∧ q = b) ∨ (p = b ∧ q = a)
    · rw [if_pos c]
      have e : D a b = D p q := by rcases c with ⟨e1, e2⟩ | ⟨e1, e2⟩ <;> rw [e1, e2]; exact hs a b
      by_cases c2 : D a b ≤ w
      · rw [if_pos c2]; exact Or.inl e
      · rw [if_neg c2]; exact Or.inr ⟨rfl, by omega, c⟩
    · rw [if_neg c]; exact Or.inl rfl
  have up : ∀ p q u, El es p q u → El (es ++ [(a, b, w)]) p q u := fun p q u hq => by
    obtain ⟨z, z1, z2⟩ := hq
    exact ⟨z, List.mem_append_left _ z1, z2⟩
  refine ⟨fun p hp => ?_, fun p q => ?_, fun p q u hq => ?_, fun p q hq => ?_, fun p q => ?_⟩
  · rcases val p p with e | ⟨-, -, e⟩
    · rw [e]; exact h0 p hp
    · rcases e with ⟨e1, e2⟩ | ⟨e1, e2⟩
      · exact absurd (e1.symm.trans e2) hab
      · exact absurd (e2.symm.trans e1) hab
  · unfold jn
    have sw : ((p = a ∧ q = b) ∨ (p = b ∧ q = a)) ↔ ((q = a ∧ p = b) ∨ (q = b ∧ p = a)) := ⟨fun z => z.elim (fun e => Or.inr ⟨e.2, e.1⟩) (fun e => Or.inl ⟨e.2, e.1⟩), fun z => z.elim (fun e => Or.inr ⟨e.2, e.1⟩) (fun e => Or.inl ⟨e.2, e.1⟩)⟩
    by_cases c : (p = a ∧ q = b) ∨ (p = b ∧ q = a)
    · rw [if_pos c, if_pos (sw.mp c)]
    · rw [if_neg c, if_neg (fun z => c (sw.mpr z)), hs p q]
  · obtain ⟨z, z1, z2, z3⟩ := hq
    rcases List.mem_append.mp z1 with z1 | z1
    · have := he p q u ⟨z, z1, z2, z3⟩
      rcases val p q with e | ⟨e, e2, -⟩
      · rw [e]; exact this
      · rw [e]; omega
    · rw [List.mem_singleton] at z1
      subst z1
      have hc : (p = a ∧ q = b) ∨ (p = b ∧ q = a) := by rcases z3 with ⟨e1, e2⟩ | ⟨e1, e2⟩; exact Or.inl ⟨e1.symm, e2.symm⟩; exact Or.inr ⟨e2.symm, e1.symm⟩
      have hu : w = u := z2
      unfold jn
      rw [if_pos hc]
      by_cases c2 : D a b ≤ w
      · rw [if_pos c2]; omega
      · rw [if_neg c2]; omega
  · rcases val p q with e | ⟨e, -, e3⟩
    · rw [e] at hq ⊢
      rcases ha p q hq with h | h
      · exact Or.inl h
      · exact Or.inr (up _ _ _ h)
    · rw [e]
      exact Or.inr ⟨(a, b, w), List.mem_append_right _ (List.mem_singleton.mpr rfl), rfl, by rcases e3 with ⟨e1, e2⟩ | ⟨e1, e2⟩; exact Or.inl ⟨e1.symm, e2.symm⟩; exact Or.inr ⟨e2.symm, e1.symm⟩⟩
  · rcases val p q with e | ⟨e, e2, -⟩
    · rw [e]; exact hb p q
    · rw [e]; omega
theorem jns_ok {N : Nat} : ∀ (es fs : List (Nat × Nat × Nat)) (D : Nat → Nat → Nat), jI N fs D → (∀ q ∈ es, q.1 ≠ q.2.1 ∧ q.2.2 < 1000) → jI N (fs ++ es) (jns es D) := by
  intro es
  induction es with
  | nil => intro fs D h _; rw [List.append_nil]; exact h
  | cons q es ih =>
    intro fs D h hq
    have h1 := hq q List.mem_cons_self
    have h2 := ih (fs ++ [q]) _ (jI_S h h1.1 h1.2) (fun r hr => hq r (List.mem_cons_of_mem _ hr))
    rw [List.append_assoc] at h2
    exact h2
theorem jI_fw {N : Nat} {es : List (Nat × Nat × Nat)} {D : Nat → Nat → Nat} (h : jI N es D) : fwI2 N (El es) D 0 := by
  obtain ⟨h0, hs, he, ha, hb⟩ := h
  refine ⟨h0, fun a b c _ _ hc => by omega, fun a b w _ _ hE => he a b w hE, fun a b ha' hb' hlt => ?_, fun a b _ _ => hb a b⟩
  rcases ha a b hlt with e | e
  · subst e
    exact ⟨0, rfl, h0 a ha'⟩
  · exact ⟨1, a, 0, D a b, ⟨rfl, rfl⟩, e, by omega⟩
