/-! sees and scope alike. -/
section SE
variable {N K : Nat} {A B Q : Nat → Nat → Int32}
theorem lk8 {D : Nat → Nat → Nat} (P : Nat → Prop) (hb : ∀ Q1, mt N Q1 D → ∀ i, i < N → ((m_isSpace N K B Q1 (nI i) = (0 : Int32) ∨ m_greatest N K B Q1 (nI i) (0 : Int32) ≤ (0 : Int32)) ↔ P i)) : ∀ (k i : Nat) (Q1 : Nat → Nat → Int32), i + k = N → mt N Q1 D → (∀ j, j < i → (Q1 4 j = (0 : Int32) ↔ P j)) → ∀ j, j < N → (m_looks_8 N K B k i Q1 4 j = (0 : Int32) ↔ P j) := by
  intro k
  induction k with
  | zero => intro i Q1 hi _ h j hj; exact h j (by omega)
  | succ k ih =>
    intro i Q1 hi hm h
    have hv := hb Q1 hm i (by omega)
    have st : ∀ v : Int32, (v = (0 : Int32) ↔ P i) → ∀ j, j < N → (m_looks_8 N K B k (i + 1) (sU Q1 4 i v) 4 j = (0 : Int32) ↔ P j) := fun v ev => by
      refine ih (i + 1) _ (by omega) (fun a b ha hb => ?_) (fun j hj => ?_)
      · rw [sU_ne _ _ _ (by decide)]; exact hm a b ha hb
      · rw [sU_same]
        by_cases e : j = i
        · subst e; rw [pk_us]; exact ev
        · rw [pk_un e]; exact h j (by omega)
    rw [m_looks_8_S]
    by_cases c1 : m_isSpace N K B Q1 (nI i) = (0 : Int32)
    · rw [if_pos c1]; exact st _ ⟨fun _ => hv.mp (Or.inl c1), fun _ => rfl⟩
    · rw [if_neg c1]
      by_cases c2 : m_greatest N K B Q1 (nI i) (0 : Int32) ≤ (0 : Int32)
      · rw [if_pos c2]; exact st _ ⟨fun _ => hv.mp (Or.inr c2), fun _ => rfl⟩
      · rw [if_neg c2]; exact st _ ⟨fun q => absurd q (by decide), fun q => ((hv.mpr q).elim (fun z => absurd z c1) (fun z => absurd z c2))⟩
theorem lk58 : ∀ (k i : Nat) (Q1 : Nat → Nat → Int32), i + k = 900 → (∀ j, j < i → (Q1 3 j = (0 : Int32) ↔ (1000 : Int32) ≤ Q1 2 j)) → (∀ j, j < 900 → (m_looks_58 N K B k i Q1 3 j = (0 : Int32) ↔ (1000 : Int32) ≤ Q1 2 j)) ∧ m_looks_58 N K B k i Q1 4 = Q1 4 := by
  intro k
  induction k with
  | zero => intro i Q1 hi h; exact ⟨fun j hj => h j (by omega), rfl⟩
  | succ k ih =>
    intro i Q1 hi h
    have st : ∀ v : Int32, (v = (0 : Int32) ↔ (1000 : Int32) ≤ Q1 2 i) → (∀ j, j < 900 → (m_looks_58 N K B k (i + 1) (sU Q1 3 i v) 3 j = (0 : Int32) ↔ (1000 : Int32) ≤ Q1 2 j)) ∧ m_looks_58 N K B k (i + 1) (sU Q1 3 i v) 4 = Q1 4 := fun v ev => by
      obtain ⟨h1, h2⟩ := ih (i + 1) (sU Q1 3 i v) (by omega) (fun j hj => by
        rw [sU_same, sU_ne _ _ _ (show (2 : Nat) ≠ 3 by decide)]
        by_cases e : j = i
        · subst e; rw [pk_us]; exact ev
        · rw [pk_un e]; exact h j (by omega))
      rw [sU_ne _ _ _ (show (2 : Nat) ≠ 3 by decide)] at h1
      rw [sU_ne _ _ _ (show (4 : Nat) ≠ 3 by decide)] at h2
      exact ⟨h1, h2⟩
    rw [m_looks_58_S]
    by_cases c : (1000 : Int32) ≤ Q1 2 i
    · rw [if_pos c]; exact st _ ⟨fun _ => c, fun _ => rfl⟩
    · rw [if_neg c]; exact st _ ⟨fun q => absurd q (by decide), fun q => absurd q c⟩
/-- the reference has looked -/
def lkd (N K : Nat) (A B Q : Nat → Nat → Int32) : Prop :=
  (∀ a b, a < N → b < N → (Q 3 (30 * a + b) = (0 : Int32) ↔ ¬ rc (El (ked N K A 0 0)) a b)) ∧ (∀ s, s < N → (Q 4 s = (0 : Int32) ↔ (k_isSpace N K A (nI s) = (0 : Int32) ∨ A 10 s ≤ (0 : Int32)))) ∧ ∀ x t, x < N → t < N → k_spaceOf N K A (nI x) = nI t → (0 : Int32) < B 2 (4 * x + 2) → ¬ A 10 t ≤ (0 : Int32)
theorem looks_ok (R : Rel N K A B) : lkd N K (k_fillFromAllThings N K A (2 : Int32)) B (m_looks N K B Q) ∧ eqv A (k_fillFromAllThings N K A (2 : Int32)) := by
  have hN := R.hN
  obtain ⟨D, d1, d2, -⟩ := loss_ok R (wt := 0) (by omega) 1 Q
  have le : ∀ Q1, mt N Q1 D → eqv A (k_fillFromAllThings N K A (2 : Int32)) ∧ ∀ s, s < N → k_fillFromAllThings N K A (2 : Int32) 10 s = m_greatest N K B Q1 (nI s) (0 : Int32) ∧ ∃ g, g ≤ 9 ∧ m_greatest N K B Q1 (nI s) (0 : Int32) = nI g := fun Q1 h1 => lev_eq R (wt := 0) (by omega) h1 d2
  have ev := (le _ d1).1
  have R1 := Rel_ev R ev
  refine ⟨⟨?_, ?_, ?_⟩, ev⟩
  · obtain ⟨D0, e1, e2, -⟩ := loss_ok R1 (wt := 0) (by omega) 0 (m_looks_8 N K B N 0 (m_findLosses N K B Q (0 : Int32) (1 : Int32)))
    intro a b ha hb
    have hr := rc_D hN (by rw [ked00]; exact kwl_w _ N 0) e2 (ked_in R1 0 0) ha hb
    rw [m_looks, (lk58 (N := N) (K := K) (B := B) 900 0 _ (by omega) (fun j hj => by omega)).1 (30 * a + b) (by omega), ← hr]
    have e3 := e1 a b ha hb
    rw [show (0 : Int32) = nI 0 from rfl] at *
    rw [e3.1, show (1000 : Int32) = nI 1000 from rfl, nI_leJ (by omega) e3.2]
    omega
  · intro s hs
    rw [m_looks, (lk58 (N := N) (K := K) (B := B) 900 0 _ (by omega) (fun j hj => by omega)).2]
    obtain ⟨D0, -, -, e3⟩ := loss_ok R1 (wt := 0) (by omega) 0 (m_looks_8 N K B N 0 (m_findLosses N K B Q (0 : Int32) (1 : Int32)))
    have e4 := e3 4 (by decide)
    rw [show nI 0 = (0 : Int32) from rfl] at e4
    rw [e4]
    exact lk8 (D := D) (fun s => k_isSpace N K (k_fillFromAllThings N K A (2 : Int32)) (nI s) = (0 : Int32) ∨ k_fillFromAllThings N K A (2 : Int32) 10 s ≤ (0 : Int32)) (fun Q1 h1 i hi => by
      rw [eSp R, ev_isSpace ev, ((le Q1 h1).2 i hi).1]) N 0 _ (by omega) d1 (fun j hj => by omega) s hs
  · intro x t hx ht h1 h2 h3
    rw [ev_spaceOf ev] at h1
    obtain ⟨v1, v2⟩ := gv_ok R (wt := 0) (by omega) hx
    obtain ⟨g, g1, g2, -, g4, -⟩ := great5 R (wt := 0) (by omega) ht d1 N 0 0 (by omega) (by omega)
    have g5 := g4 x t (by omega) hx ht h1
    rw [d2.1 t ht] at g5
    have g6 : m_greatest N K B (m_findLosses N K B Q (nI 0) (1 : Int32)) (nI t) (0 : Int32) = nI g := g1
    rw [((le _ d1).2 t ht).1, g6, show (0 : Int32) = nI 0 from rfl, nI_leJ (by omega) (by omega)] at h3
    have v3 : B 2 (4 * x + 2) = nI (gv B 0 x) := v1
    rw [v3, Int32.lt_iff_toInt_lt, nI_toInt (by omega)] at h2
    have : (0 : Int32).toInt = 0 := by decide
    omega
/-- a step over a door -/
def pc (B Q : Nat → Nat → Int32) (s u d : Nat) : Prop := lit B d ∧ ((¬ Q 3 (30 * s + dF B d) = (0 : Int32) ∧ ¬ Q 3 (30 * dT B d + u) = (0 : Int32)) ∨ (¬ Q 3 (30 * s + dT B d) = (0 : Int32) ∧ ¬ Q 3 (30 * dF B d + u) = (0 : Int32)))
theorem p15 (R : Rel N K A B) {s u : Nat} (hs : s < N) (hu : u < N) {k i : Nat} (hi : i < K) (v : Int32) :
    (pc B Q s u i → m_passes_15 N K B Q (nI s) (nI u) (k + 1) i v = m_passes_15 N K B Q (nI s) (nI u) k (i + 1) (1 : Int32)) ∧ (¬ pc B Q s u i → v = (0 : Int32) → m_passes_15 N K B Q (nI s) (nI u) (k + 1) i v = m_passes_15 N K B Q (nI s) (nI u) k (i + 1) (0 : Int32)) ∧ (¬ v = (0 : Int32) → m_passes_15 N K B Q (nI s) (nI u) (k + 1) i v = m_passes_15 N K B Q (nI s) (nI u) k (i + 1) (1 : Int32)) := by
  have hN := R.hN
  obtain ⟨e3, e4, hf, ht⟩ := d_ok R hi
  rw [m_passes_15_S, e3, e4, ix2 hN hs hf, ix2 hN hs ht, ix2 hN hf hu, ix2 hN ht hu]
  unfold pc lit
  generalize m_passes_15 N K B Q (nI s) (nI u) k (i + 1) (0 : Int32) = P0
  generalize m_passes_15 N K B Q (nI s) (nI u) k (i + 1) (1 : Int32) = P1
  generalize Q 3 (30 * s + dF B i) = a
  generalize Q 3 (30 * s + dT B i) = b
  generalize Q 3 (30 * dF B i + u) = c
  generalize Q 3 (30 * dT B i + u) = d
  generalize B 5 i = o
  generalize B 6 i = l
  by_cases ho : o = (1 : Int32) <;> by_cases hl : l = (1 : Int32) <;> by_cases ha : a = (0 : Int32) <;> by_cases hb : b = (0 : Int32) <;> by_cases hc : c = (0 : Int32) <;> by_cases hd : d = (0 : Int32) <;> by_cases hv : v = (0 : Int32) <;> simp only [ho, hl, ha, hb, hc, hd, hv, if_true, if_false, not_true, not_false_iff, true_or, or_true, false_or, or_false, true_and, and_true, false_and, and_false, false_imp_iff, true_imp_iff, imp_self]
theorem p15_0 (R : Rel N K A B) {s u : Nat} (hs : s < N) (hu : u < N) : ∀ (k i : Nat) (v : Int32), i + k = K → (m_passes_15 N K B Q (nI s) (nI u) k i v = (0 : Int32) ↔ v = (0 : Int32) ∧ ∀ d, i ≤ d → d < K → ¬ pc B Q s u d) := by
  intro k
  induction k with
  | zero => intro i v hi; exact ⟨fun h => ⟨h, fun d h1 h2 => by omega⟩, fun h => h.1⟩
  | succ k ih =>
    intro i v hi
    have hiK : i < K := by omega
    obtain ⟨h1, h2, h3⟩ := p15 (Q := Q) R hs hu (k := k) hiK v
    by_cases cv : v = (0 : Int32)
    · by_cases cp : pc B Q s u i
      · rw [h1 cp, ih _ _ (by omega)]
        exact ⟨fun q => absurd q.1 (by decide), fun q => absurd cp (q.2 i (Nat.le_refl _) hiK)⟩
      · rw [h2 cp cv, ih _ _ (by omega)]
        refine ⟨fun q => ⟨cv, fun d g1 g2 => ?_⟩, fun q => ⟨rfl, fun d g1 g2 => q.2 d (by omega) g2⟩⟩
        by_cases e : d = i
        · rw [e]; exact cp
        · exact q.2 d (by omega) g2
    · rw [h3 cv, ih _ _ (by omega)]
      exact ⟨fun q => absurd q.1 (by decide), fun q => absurd q.1 cv⟩
theorem passes_vw (R : Rel N K A B) (hk : lkd N K A B Q) {s u : Nat} (hs : s < N) (hu : u < N) : m_passes N K B Q (nI s) (nI u) = (0 : Int32) ↔ ¬ vw N K A B s u := by
  have hN := R.hN
  rw [m_passes, ix2 hN hs hu, p15_0 R hs hu K 0 _ (by omega), hk.1 s u hs hu]
  unfold vw
  constructor
  · rintro ⟨h1, h2⟩ (q | ⟨d, hd, hl, q⟩)
    · exact h1 q
    · obtain ⟨-, -, hf, ht⟩ := d_ok R hd
      refine h2 d (Nat.zero_le _) hd ⟨hl, ?_⟩
      rw [hk.1 _ _ hs hf, hk.1 _ _ ht hu, hk.1 _ _ hs ht, hk.1 _ _ hf hu, Classical.not_not, Classical.not_not, Classical.not_not, Classical.not_not]
      exact q
  · intro h
    refine ⟨fun q => h (Or.inl q), fun d _ hd q => h (Or.inr ⟨d, hd, q.1, ?_⟩)⟩
    obtain ⟨-, -, hf, ht⟩ := d_ok R hd
    have := q.2
    rw [hk.1 _ _ hs hf, hk.1 _ _ ht hu, hk.1 _ _ hs ht, hk.1 _ _ hf hu, Classical.not_not, Classical.not_not, Classical.not_not, Classical.not_not] at this
    exact this
theorem seen_eq (R : Rel N K A B) (hk : lkd N K A B Q) {w j : Nat} (hw : w < N) (hj : j < N) (hne : ¬ nI w = nI j) : k_isSeen N K A (nI j) (k_viewOf N K A (nI w)) = (0 : Int32) ↔ m_isSeen N K B Q (nI w) (nI j) = (0 : Int32) := by
  have hN := R.hN
  rw [k_isSeen, m_isSeen, if_neg hne, ← eSc (Q := Q) R hw, ← eSc (Q := Q) R hj]
  rcases spaceOf_v (N := N) (K := K) (A := A) hN (nI w) with ew | ⟨s, hs, ew⟩
  · have e0 : k_viewOf N K A (nI w) = (0 : Int32) := by rw [k_viewOf, if_pos ew]
    rw [if_pos ew, e0]
    refine ⟨fun _ => rfl, fun _ => ?_⟩
    by_cases c : k_spaceOf N K A (nI j) = (-1 : Int32)
    · rw [if_pos c]
    · rw [if_neg c, if_pos (Int32.zero_and)]
  · rw [ew, if_neg (nI_m1 hN hs)]
    rcases spaceOf_v (N := N) (K := K) (A := A) hN (nI j) with ej | ⟨u, hu, ej⟩
    · rw [if_pos ej, if_pos ej]
    · have hsp : ¬ k_isSpace N K A (nI u) = (0 : Int32) := by
        have := spaceOf_S (N := N) (K := K) (A := A) (x := nI j) (by rw [ej]; exact nI_m1 hN hu)
        rw [ej] at this
        exact this
      have hview := view_k R (who := nI w) hs hu ew
      have hbit : k_viewOf N K A (nI w) &&& ((1 : Int32) <<< (nI u &&& 31)) = (0 : Int32) ↔ ¬ vw N K A B s u := by
        rw [← hview, bi_z]
        constructor
        · intro h q
          have := h u
          rw [bi_and, bi_one (by omega), q, decide_eq_true rfl] at this
          cases this
        · intro h i
          rw [bi_and, bi_one (by omega)]
          by_cases e : u = i
          · subst e
            cases hb : bi (k_viewOf N K A (nI w)) u
            · rfl
            · exact absurd hb h
          · rw [decide_eq_false e, Bool.and_false]
      have hx : (((4 : Int32) * nI j) + (2 : Int32)).toNatClampNeg = 4 * j + 2 := by
        rw [show (4 : Int32) = nI 4 from rfl, show (2 : Int32) = nI 2 from rfl, pk_mul, nI_add, nI_clamp (by omega)]
      rw [ej, if_neg (nI_m1 hN hu), if_neg (nI_m1 hN hu), hx, nI_clamp (n := u) (by omega)]
      by_cases cv : vw N K A B s u
      · rw [if_neg (fun q => (hbit.mp q) cv), if_neg (fun q => ((passes_vw R hk hs hu).mp q) cv)]
        by_cases cl : (0 : Int32) < B 2 (4 * j + 2)
        · rw [if_pos cl, if_neg (hk.2.2 j u hj hu ej cl)]
        · rw [if_neg cl]
          by_cases cb : A 10 u ≤ (0 : Int32)
          · rw [if_pos cb, if_pos ((hk.2.1 u hu).mpr (Or.inr cb))]
          · rw [if_neg cb, if_neg (fun q => ((hk.2.1 u hu).mp q).elim hsp cb)]
      · have p0 := (passes_vw R hk hs hu).mpr cv
        rw [if_pos (hbit.mpr cv), if_pos p0]
        by_cases cl : (0 : Int32) < B 2 (4 * j + 2)
        · rw [if_pos cl]
        · rw [if_neg cl]
          by_cases cq : Q 4 u = (0 : Int32)
          · rw [if_pos cq]
          · rw [if_neg cq]
theorem p_sees (R : Rel N K A B) (who x : Int32) : RQ A (k_sees N K A who x) (m_sees N K B Q who x) := by
  have hN := R.hN
  rw [k_sees, m_sees, eT R]
  by_cases c1 : k_isPerson N K A who = (0 : Int32)
  · rw [if_pos c1, if_pos ((eP_0 R who).mpr c1)]; exact ⟨rfl, eqv.rf⟩
  rw [if_neg c1, if_neg (fun q => c1 ((eP_0 R who).mp q))]
  by_cases c2 : k_isThing N K A x = (0 : Int32)
  · rw [if_pos c2, if_pos c2]; exact ⟨rfl, eqv.rf⟩
  rw [if_neg c2, if_neg c2]
  obtain ⟨w, hw, rfl⟩ := isThing_j hN (sortOf_k (isPerson_s c1) (by decide))
  obtain ⟨j, hj, rfl⟩ := isThing_j hN c2
  by_cases c3 : nI w = nI j
  · have : m_isSeen N K B (m_looks N K B Q) (nI w) (nI j) = (0 : Int32) := by rw [m_isSeen, if_pos c3]
    rw [if_pos c3, if_pos this]; exact ⟨rfl, eqv.rf⟩
  rw [if_neg c3]
  obtain ⟨hk, ev⟩ := looks_ok (Q := Q) R
  have h := seen_eq (Rel_ev R ev) hk hw hj c3
  by_cases c4 : k_isSeen N K (k_fillFromAllThings N K A (2 : Int32)) (nI j) (k_viewOf N K (k_fillFromAllThings N K A (2 : Int32)) (nI w)) = (0 : Int32)
  · rw [if_pos c4, if_pos (h.mp c4)]; exact ⟨rfl, ev⟩
  · rw [if_neg c4, if_neg (fun q => c4 (h.mpr q))]; exact ⟨rfl, ev⟩
theorem reach_eq (R : Rel N K A B) {w j : Nat} (hw : w < N) (hj : j < N) (hp : B 0 w = (3 : Int32)) : (m_isReached N K B Q (nI w) (nI j)).1 = (0 : Int32) ↔ ¬ k_firstBarrier N K A (nI w) (nI j) = (-1 : Int32) := by
  rw [m_isReached]
  rcases y_main (Q := Q) R hw hj hp with ⟨g1, g2⟩ | ⟨g1, g2, g3⟩
  · rw [if_pos g2, g1]; exact ⟨fun _ => by decide, fun _ => rfl⟩
  · rw [if_neg (by rw [g2]; decide), ← g3]
    by_cases c : k_firstBarrier N K A (nI w) (nI j) = (-1 : Int32)
    · rw [if_pos c]; exact ⟨fun q => absurd (show (1 : Int32) = (0 : Int32) from q) (by decide), fun q => absurd c q⟩
    · rw [if_neg c]; exact ⟨fun _ => c, fun _ => rfl⟩
theorem lkd_keep (R : Rel N K A B) {Q' : Nat → Nat → Int32} (hk : lkd N K A B Q) (h3 : Q' 3 = Q 3) (h4 : Q' 4 = Q 4) : lkd N K A B Q' := by
  refine ⟨fun a b ha hb => ?_, fun s hs => ?_, hk.2.2⟩
  · rw [h3]; exact hk.1 a b ha hb
  · rw [h4]; exact hk.2.1 s hs
theorem scope_loop (R : Rel N K A B) {w : Nat} (hw : w < N) (hp : B 0 w = (3 : Int32)) (ix : Int32) (hx : ¬ ix < (0 : Int32)) : ∀ (k i : Nat) (Q : Nat → Nat → Int32) (v l : Int32), i + k = N → v + l = ix → lkd N K A B Q →
    (k_scope_28 N K (nI w) ix (k_viewOf N K A (nI w)) k i A v).1 = (m_scope_21 N K B (nI w) ix k i Q l).1 ∧ (k_scope_28 N K (nI w) ix (k_viewOf N K A (nI w)) k i A v).2 = A := by
  intro k
  induction k with
  | zero => intro i Q v l _ _ _; exact ⟨rfl, rfl⟩
  | succ k ih =>
    intro i Q v l hi hv hk
    have hN := R.hN
    have hiN : i < N := by omega
    have nx : v + 1 + (l + (-1 : Int32)) = ix := by rw [← hv, Int32.add_assoc, show (1 : Int32) + (l + (-1 : Int32)) = l from by rw [Int32.add_comm l, ← Int32.add_assoc, show (1 : Int32) + (-1 : Int32) = 0 from by decide, Int32.zero_add]]
    rw [k_scope_28_S, m_scope_21_S, if_neg hx]
    by_cases c1 : nI i = nI w
    · rw [if_pos c1, if_pos c1]; exact ih _ _ _ _ (by omega) hv hk
    rw [if_neg c1, if_neg c1]
    have hs := seen_eq R hk hw hiN (fun q => c1 q.symm)
    by_cases c2 : k_isSeen N K A (nI i) (k_viewOf N K A (nI w)) = (0 : Int32)
    · rw [if_pos c2, if_pos (hs.mp c2)]
      have hr := reach_eq (Q := Q) R hw hiN hp
      have hk' : lkd N K A B (m_isReached N K B Q (nI w) (nI i)).2 := lkd_keep R hk (by rw [isReached_2, findWay_row (by decide) (by decide) (by decide)]) (by rw [isReached_2, findWay_row (by decide) (by decide) (by decide)])
      by_cases c3 : k_firstBarrier N K A (nI w) (nI i) = (-1 : Int32)
      · rw [if_pos c3, if_neg (fun q => hr.mp q c3)]
        by_cases c4 : l = (0 : Int32)
        · rw [if_pos c4, if_pos (show v = ix by rw [← hv, c4, Int32.add_zero])]; exact ⟨rfl, rfl⟩
        · rw [if_neg c4, if_neg (show ¬ v = ix from fun q => c4 (by rw [q] at hv; exact Int32.add_eq_left.mp hv))]
          exact ih _ _ _ _ (by omega) nx hk'
      · rw [if_neg c3, if_pos (hr.mpr c3)]; exact ih _ _ _ _ (by omega) hv hk'
    · rw [if_neg c2, if_neg (fun q => c2 (hs.mpr q))]
      by_cases c4 : l = (0 : Int32)
      · rw [if_pos c4, if_pos (show v = ix by rw [← hv, c4, Int32.add_zero])]; exact ⟨rfl, rfl⟩
      · rw [if_neg c4, if_neg (show ¬ v = ix from fun q => c4 (by rw [q] at hv; exact Int32.add_eq_left.mp hv))]
        exact ih _ _ _ _ (by omega) nx hk
theorem scope_neg (who ix u : Int32) (hx : ix < (0 : Int32)) (hN : N ≤ 30) : ∀ (k i n : Nat), i + k = N → n ≤ i → k_scope_28 N K who ix u k i A (nI n) = ((-1 : Int32), A) := by
  intro k
  induction k with
  | zero => intro i n _ _; rfl
  | succ k ih =>
    intro i n hi hn
    have c : ¬ nI n = ix := fun q => nI_pos (n := n) (by omega) (q ▸ hx)
    rw [k_scope_28_S, if_neg c, nI_1, ih _ _ (by omega) (by omega), ih _ _ (by omega) (by omega)]
    by_cases c1 : nI i = who
    · rw [if_pos c1]
    · rw [if_neg c1]
      by_cases c2 : k_isSeen N K A (nI i) u = (0 : Int32)
      · rw [if_pos c2]
        by_cases c3 : k_firstBarrier N K A who (nI i) = (-1 : Int32)
        · rw [if_pos c3]
        · rw [if_neg c3]
      · rw [if_neg c2]
theorem p_scope (R : Rel N K A B) (who ix : Int32) : RQ A (k_scope N K A who ix) (m_scope N K B Q who ix) := by
  have hN := R.hN
  rw [k_scope, m_scope]
  by_cases c1 : k_isPerson N K A who = (0 : Int32)
  · rw [if_pos c1, if_pos ((eP_0 R who).mpr c1)]; exact ⟨rfl, eqv.rf⟩
  rw [if_neg c1, if_neg (fun q => c1 ((eP_0 R who).mp q))]
  obtain ⟨w, hw, rfl⟩ := isThing_j hN (sortOf_k (isPerson_s c1) (by decide))
  have hp : B 0 w = (3 : Int32) := by rw [← eS_j R hw]; exact isPerson_s c1
  obtain ⟨hk, ev⟩ := looks_ok (Q := Q) R
  by_cases c2 : ix < (0 : Int32)
  · have e := scope_neg (K := K) (A := k_fillFromAllThings N K A (2 : Int32)) (nI w) ix (k_viewOf N K (k_fillFromAllThings N K A (2 : Int32)) (nI w)) c2 hN N 0 0 (by omega) (by omega)
    have : ∀ (k i : Nat) (Q : Nat → Nat → Int32) (v : Int32), (m_scope_21 N K B (nI w) ix k i Q v).1 = (-1 : Int32) := by
      intro k i Q v
      cases k with
      | zero => rfl
      | succ k => rw [m_scope_21_S, if_pos c2]
    rw [show (0 : Int32) = nI 0 from rfl] at *
    rw [e]
    exact ⟨(this _ _ _ _).symm, ev⟩
  · obtain ⟨h1, h2⟩ := scope_loop (Rel_ev R ev) hw hp ix c2 N 0 (m_looks N K B Q) (0 : Int32) ix (by omega) (Int32.zero_add ix) hk
    exact ⟨h1, by rw [h2]; exact ev⟩
end SE
