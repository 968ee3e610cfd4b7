/-! The reference's losses are those numbers. -/
def mt (N : Nat) (Q : Nat → Nat → Int32) (D : Nat → Nat → Nat) : Prop := ∀ a b, a < N → b < N → Q 2 (30 * a + b) = nI (D a b) ∧ D a b ≤ 1000
def r2 (Q Q' : Nat → Nat → Int32) : Prop := ∀ r, r ≠ 2 → Q' r = Q r
theorem r2.rf {Q : Nat → Nat → Int32} : r2 Q Q := fun _ _ => rfl
theorem r2.tr {Q Q' Q'' : Nat → Nat → Int32} (h : r2 Q Q') (h' : r2 Q' Q'') : r2 Q Q'' := fun r hr => (h' r hr).trans (h r hr)
theorem r2_sU (Q : Nat → Nat → Int32) (j : Nat) (v : Int32) : r2 Q (sU Q 2 j v) := fun _ hr => sU_ne Q j v hr
section LS
variable {N K : Nat} {A B Q : Nat → Nat → Int32}
theorem l13 (hN : N ≤ 30) {m : Nat} (hm : m < N) : ∀ (k i : Nat) (Q : Nat → Nat → Int32), i + k = N → r2 Q (m_findLosses_13 N K B m k i Q) ∧ ∀ p q, p < N → q < N → m_findLosses_13 N K B m k i Q 2 (30 * p + q) = (if p = m ∧ i ≤ q then nI (d0 m q) else Q 2 (30 * p + q)) := by
  intro k
  induction k with
  | zero => intro i Q hi; exact ⟨r2.rf, fun p q _ hq => by rw [if_neg (by omega)]; rfl⟩
  | succ k ih =>
    intro i Q hi
    have e : m_findLosses_13 N K B m (k + 1) i Q = m_findLosses_13 N K B m k (i + 1) (sU Q 2 ((30 * m) + i) (nI (d0 m i))) := by
      rw [m_findLosses_13_S]
      unfold d0
      by_cases c : m = i
      · rw [if_pos (show nI m = nI i by rw [c]), if_pos c]; rfl
      · rw [if_neg (show ¬ nI m = nI i from fun z => c ((nI_eq (by omega) (by omega)).mp z)), if_neg c]; rfl
    rw [e]
    obtain ⟨h1, h2⟩ := ih (i + 1) (sU Q 2 ((30 * m) + i) (nI (d0 m i))) (by omega)
    refine ⟨(r2_sU _ _ _).tr h1, fun p q hp hq => ?_⟩
    rw [h2 p q hp hq, sU_same]
    by_cases c : p = m ∧ i + 1 ≤ q
    · rw [if_pos c, if_pos ⟨c.1, by omega⟩]
    · rw [if_neg c]
      by_cases c2 : p = m ∧ q = i
      · rw [c2.1, c2.2, pk_us, if_pos ⟨rfl, Nat.le_refl _⟩]
      · rw [pk_un (show 30 * p + q ≠ 30 * m + i by omega), if_neg (by omega)]
theorem l2 (hN : N ≤ 30) : ∀ (k i : Nat) (Q : Nat → Nat → Int32), i + k = N → r2 Q (m_findLosses_2 N K B k i Q) ∧ ∀ p q, p < N → q < N → m_findLosses_2 N K B k i Q 2 (30 * p + q) = (if i ≤ p then nI (d0 p q) else Q 2 (30 * p + q)) := by
  intro k
  induction k with
  | zero => intro i Q hi; exact ⟨r2.rf, fun p q hp _ => by rw [if_neg (by omega)]; rfl⟩
  | succ k ih =>
    intro i Q hi
    rw [m_findLosses_2_S]
    obtain ⟨g1, g2⟩ := l13 (K := K) (B := B) hN (show i < N by omega) N 0 Q (by omega)
    obtain ⟨h1, h2⟩ := ih (i + 1) (m_findLosses_13 N K B i N 0 Q) (by omega)
    refine ⟨g1.tr h1, fun p q hp hq => ?_⟩
    rw [h2 p q hp hq, g2 p q hp hq]
    by_cases c : i + 1 ≤ p
    · rw [if_pos c, if_pos (by omega)]
    · rw [if_neg c]
      by_cases c2 : p = i
      · rw [if_pos ⟨c2, by omega⟩, if_pos (by omega), c2]
      · rw [if_neg (fun z => c2 z.1), if_neg (by omega)]
theorem l2_mt (hN : N ≤ 30) : mt N (m_findLosses_2 N K B N 0 Q) d0 := fun a b ha hb => by
  rw [(l2 hN N 0 Q (by omega)).2 a b ha hb, if_pos (by omega)]
  exact ⟨rfl, (jI_0 N).2.2.2.2 a b⟩
theorem ix2 (hN : N ≤ 30) {a b : Nat} (ha : a < N) (hb : b < N) : (((30 : Int32) * nI a) + nI b).toNatClampNeg = 30 * a + b := by
  rw [show (30 : Int32) = nI 30 from rfl, pk_mul, nI_add, nI_clamp (by omega)]
theorem jn_mt (hN : N ≤ 30) {D : Nat → Nat → Nat} (h : mt N Q D) (hs : ∀ a b, D a b = D b a) {a b w : Nat} (ha : a < N) (hb : b < N) (hw : w ≤ 1000) : mt N (m_joins N K B Q (nI a) (nI b) (nI w)) (jn D a b w) ∧ r2 Q (m_joins N K B Q (nI a) (nI b) (nI w)) := by
  obtain ⟨e, he⟩ := h a b ha hb
  have fin : ∀ v : Nat, v = (if D a b ≤ w then D a b else w) → mt N (sU (sU Q 2 (30 * a + b) (nI v)) 2 (30 * b + a) ((sU Q 2 (30 * a + b) (nI v)) 2 (30 * a + b))) (jn D a b w) ∧ r2 Q (sU (sU Q 2 (30 * a + b) (nI v)) 2 (30 * b + a) ((sU Q 2 (30 * a + b) (nI v)) 2 (30 * a + b))) := by
    intro v hv
    have hv1 : v ≤ 1000 := by
      rw [hv]
      by_cases c : D a b ≤ w
      · rw [if_pos c]; omega
      · rw [if_neg c]; omega
    refine ⟨fun p q hp hq => ?_, (r2_sU _ _ _).tr (r2_sU _ _ _)⟩
    rw [sU_same, sU_same, pk_us]
    unfold jn
    rw [← hv]
    by_cases c1 : p = b ∧ q = a
    · rw [c1.1, c1.2, pk_us, if_pos (Or.inr ⟨rfl, rfl⟩)]; exact ⟨rfl, hv1⟩
    · rw [pk_un (show 30 * p + q ≠ 30 * b + a by omega)]
      by_cases c2 : p = a ∧ q = b
      · rw [c2.1, c2.2, pk_us, if_pos (Or.inl ⟨rfl, rfl⟩)]; exact ⟨rfl, hv1⟩
      · rw [pk_un (show 30 * p + q ≠ 30 * a + b by omega), if_neg (fun z => z.elim c2 c1)]; exact h p q hp hq
  rw [m_joins, ix2 hN ha hb, ix2 hN hb ha, e]
  by_cases c : D a b ≤ w
  · rw [if_pos (nI_le c (by omega))]
    exact fin (D a b) (if_pos c).symm
  · rw [if_neg (nI_ge (show w < D a b by omega) (by omega))]
    exact fin w (if_neg c).symm
theorem jn_far {D : Nat → Nat → Nat} (hs : ∀ a b, D a b = D b a) (hb : ∀ a b, D a b ≤ 1000) (a b : Nat) : jn D a b 1000 = D := by
  funext p q
  unfold jn
  by_cases c : (p = a ∧ q = b) ∨ (p = b ∧ q = a)
  · rw [if_pos c, if_pos (hb a b)]
    rcases c with ⟨e1, e2⟩ | ⟨e1, e2⟩
    · rw [e1, e2]
    · rw [e1, e2]; exact hs a b
  · rw [if_neg c]
theorem spO_hit (R : Rel N K A B) : ∀ (k : Nat) (v : Int32) (t : Nat), chp N (B 1) k v → t < N → m_spaceOf_18 N K B Q k v = nI t → hit N (B 1) (k + 1) v (nI t) := by
  have hN := R.hN
  intro k
  induction k with
  | zero => intro v t hc; exact absurd hc chp_0
  | succ k ih =>
    intro v t hc ht h
    rw [m_spaceOf_18_S] at h
    by_cases c1 : v = (-1 : Int32)
    · rw [if_pos c1] at h; exact absurd (h.symm.trans c1) (nI_m1 hN ht)
    · rw [if_neg c1] at h
      by_cases c2 : m_isSpace N K B Q v = (0 : Int32)
      · rw [if_pos c2] at h
        obtain ⟨j, hj, rfl, hc2⟩ := chp_dec hc c1
        rw [nI_clamp (by omega)] at h
        exact Or.inr ⟨j, hj, rfl, ih _ t hc2 ht h⟩
      · rw [if_neg c2] at h; exact Or.inl h
theorem sp_ne (R : Rel N K A B) {i t : Nat} (hi : i < N) (ht : t < N) (h0 : ¬ B 0 i = (0 : Int32)) (h : m_spaceOf N K B Q (nI i) = nI t) : i ≠ t := by
  have hN := R.hN
  intro e
  subst e
  rw [m_spaceOf, nI_clamp (by omega), if_neg h0] at h
  exact acyc R hi 31 (spO_hit R 30 _ i (R.hC i hi) hi h)
/-- the loss of a box's wall, a door: as the reference has it -/
theorem wl_eq (R : Rel N K A B) {i wt : Nat} (hi : i < N) (hwt : wt < 2) (hb : B 0 i = (1 : Int32)) (o c : Int32) (ho : o = (if B 2 (4 * i) = (1 : Int32) then (1 : Int32) else (0 : Int32))) (hc : c = (if B 2 (4 * i + 1) = (1 : Int32) then (1 : Int32) else (0 : Int32))) :
    (∃ w : Nat, w ≤ 3 ∧ k_wallLoss N K A (nI i) (nI (2 + wt)) = nI w ∧ m_lossOf (nI wt) (0 : Int32) o c = nI w) ∨ (k_wallLoss N K A (nI i) (nI (2 + wt)) = (-1 : Int32) ∧ m_lossOf (nI wt) (0 : Int32) o c = nI 1000) := by
  have e0 := eMk_j R hi (m := 0) (by omega)
  have e1 := eMk_j R hi (m := 1) (by omega)
  rw [show nI 0 = (0 : Int32) from rfl] at e0
  rw [show nI 1 = (1 : Int32) from rfl] at e1
  rw [k_wallLoss, eS_j R hi, if_pos hb, e0, e1, Nat.add_zero, ho, hc, m_lossOf]
  by_cases c1 : B 2 (4 * i) = (1 : Int32)
  · simp only [if_pos c1]
    rcases (show wt = 0 ∨ wt = 1 by omega) with q | q <;> subst q
    · exact Or.inl ⟨0, by omega, rfl, by by_cases c2 : B 2 (4 * i + 1) = (1 : Int32) <;> simp only [c2, if_true, if_false] <;> decide⟩
    · exact Or.inl ⟨0, by omega, rfl, by by_cases c2 : B 2 (4 * i + 1) = (1 : Int32) <;> simp only [c2, if_true, if_false] <;> decide⟩
  · simp only [if_neg c1]
    rcases (show wt = 0 ∨ wt = 1 by omega) with q | q <;> subst q
    · rw [if_neg (show ¬ nI (2 + 0) = (3 : Int32) by decide)]
      by_cases c2 : B 2 (4 * i + 1) = (1 : Int32)
      · simp only [if_pos c2]; exact Or.inl ⟨1, by omega, rfl, by decide⟩
      · simp only [if_neg c2]; exact Or.inr ⟨by first | rfl | trivial, by decide⟩
    · rw [if_pos (show nI (2 + 1) = (3 : Int32) by decide)]
      exact Or.inl ⟨2, by omega, rfl, by by_cases c2 : B 2 (4 * i + 1) = (1 : Int32) <;> simp only [c2, if_true, if_false] <;> decide⟩
theorem dl_eq (R : Rel N K A B) {d wt : Nat} (hd : d < K) (hwt : wt < 2) (o c : Int32) (ho : o = (if B 5 d = (1 : Int32) then (1 : Int32) else (0 : Int32))) (hc : c = (if B 6 d = (1 : Int32) then (1 : Int32) else (0 : Int32))) :
    (∃ w : Nat, w ≤ 3 ∧ k_doorLoss N K A (nI d) (nI (2 + wt)) = nI w ∧ m_lossOf (nI wt) (1 : Int32) o c = nI w) ∨ (k_doorLoss N K A (nI d) (nI (2 + wt)) = (-1 : Int32) ∧ m_lossOf (nI wt) (1 : Int32) o c = nI 1000) := by
  have hK := R.hK
  have hdo : ¬ k_isDoor N K A (nI d) = (0 : Int32) := by
    rw [k_isDoor, if_neg (nI_pos (by omega)), if_neg (nI_ge hd (by omega))]; decide
  obtain ⟨-, -, d8, d9⟩ := R.dr hd
  rw [k_doorLoss, if_neg hdo, show 8 + (0 : Int32).toNatClampNeg = 8 from by decide, show 8 + (1 : Int32).toNatClampNeg = 9 from by decide, nI_clamp (n := d) (by omega), d8, d9, ho, hc, m_lossOf]
  by_cases c1 : B 5 d = (1 : Int32)
  · simp only [if_pos c1]
    rcases (show wt = 0 ∨ wt = 1 by omega) with q | q <;> subst q
    · exact Or.inl ⟨2, by omega, by decide, by by_cases c2 : B 6 d = (1 : Int32) <;> simp only [c2, if_true, if_false] <;> decide⟩
    · exact Or.inl ⟨1, by omega, by decide, by by_cases c2 : B 6 d = (1 : Int32) <;> simp only [c2, if_true, if_false] <;> decide⟩
  · simp only [if_neg c1]
    rcases (show wt = 0 ∨ wt = 1 by omega) with q | q <;> subst q
    · rw [if_neg (show ¬ nI (2 + 0) = (3 : Int32) by decide)]
      by_cases c2 : B 6 d = (1 : Int32)
      · simp only [if_pos c2]; exact Or.inl ⟨3, by omega, rfl, by decide⟩
      · simp only [if_neg c2]; exact Or.inr ⟨by first | rfl | trivial, by decide⟩
    · rw [if_pos (show nI (2 + 1) = (3 : Int32) by decide)]
      exact Or.inl ⟨3, by omega, rfl, by by_cases c2 : B 6 d = (1 : Int32) <;> simp only [c2, if_true, if_false] <;> decide⟩
theorem m61_S (what : Int32) (k i : Nat) (Q1 : Nat → Nat → Int32) : m_findLosses_61 N K B what (k + 1) i Q1 = (if B 0 i = (1 : Int32) then (if m_spaceOf N K B Q1 (nI i) = (-1 : Int32) then m_findLosses_61 N K B what k (i + 1) Q1 else m_findLosses_61 N K B what k (i + 1) (m_joins N K B Q1 (nI i) (m_spaceOf N K B Q1 (nI i)) (m_lossOf what (0 : Int32) (if B 2 (4 * i) = (1 : Int32) then (1 : Int32) else (0 : Int32)) (if B 2 (4 * i + 1) = (1 : Int32) then (1 : Int32) else (0 : Int32))))) else m_findLosses_61 N K B what k (i + 1) Q1) := by
  rw [m_findLosses_61_S]
  by_cases c1 : B 2 (4 * i) = (1 : Int32) <;> by_cases c2 : B 2 (4 * i + 1) = (1 : Int32) <;> simp only [c1, c2, if_true, if_false]
theorem m147_S (what wd : Int32) (k i : Nat) (Q1 : Nat → Nat → Int32) : m_findLosses_147 N K B what wd (k + 1) i Q1 = (if wd = (0 : Int32) then Q1 else m_findLosses_147 N K B what wd k (i + 1) (m_joins N K B Q1 (B 3 i) (B 4 i) (m_lossOf what (1 : Int32) (if B 5 i = (1 : Int32) then (1 : Int32) else (0 : Int32)) (if B 6 i = (1 : Int32) then (1 : Int32) else (0 : Int32))))) := by
  rw [m_findLosses_147_S]
  by_cases c1 : B 5 i = (1 : Int32) <;> by_cases c2 : B 6 i = (1 : Int32) <;> simp only [c1, c2, if_true, if_false]
theorem jns_app : ∀ (es fs : List (Nat × Nat × Nat)) (D : Nat → Nat → Nat), jns (es ++ fs) D = jns fs (jns es D) := by
  intro es
  induction es with
  | nil => intro fs D; rfl
  | cons q es ih => intro fs D; exact ih fs _
theorem l61 (R : Rel N K A B) {wt : Nat} (hwt : wt < 2) : ∀ (k i : Nat) (Q : Nat → Nat → Int32) (D : Nat → Nat → Nat) (fs : List (Nat × Nat × Nat)), i + k = N → mt N Q D → jI N fs D →
    mt N (m_findLosses_61 N K B (nI wt) k i Q) (jns (kwl N K A (nI (2 + wt)) k i) D) ∧ r2 Q (m_findLosses_61 N K B (nI wt) k i Q) ∧ jI N (fs ++ kwl N K A (nI (2 + wt)) k i) (jns (kwl N K A (nI (2 + wt)) k i) D) := by
  have hN := R.hN
  intro k
  induction k with
  | zero => intro i Q D fs _ hm hj; exact ⟨hm, r2.rf, by rw [kwl, List.append_nil]; exact hj⟩
  | succ k ih =>
    intro i Q D fs hi hm hj
    have hiN : i < N := by omega
    rw [m61_S, kwl, jns_app, kw1, ← List.append_assoc]
    by_cases c1 : B 0 i = (1 : Int32)
    · rw [if_pos c1, eSc (Q := Q) R hiN]
      by_cases c2 : m_spaceOf N K B Q (nI i) = (-1 : Int32)
      · rw [if_pos c2, if_pos c2, ite_self, List.append_nil]
        exact ih (i + 1) Q D fs (by omega) hm hj
      · rw [if_neg c2, if_neg c2]
        obtain ⟨t, ht, et⟩ := spaceOfM_j hN R.hC ⟨i, hiN, rfl⟩ c2
        have hne := sp_ne R hiN ht (by rw [c1]; decide) et
        rcases wl_eq R hiN hwt c1 _ _ rfl rfl with ⟨w, hw, e1, e2⟩ | ⟨e1, e2⟩
        · rw [et, e1, e2, if_neg (nI_m1 (N := 30) (by omega) (by omega)), nI_clamp (by omega), nI_clamp (by omega)]
          obtain ⟨g1, g2⟩ := jn_mt (K := K) (B := B) hN hm hj.2.1 hiN ht (w := w) (by omega)
          have g3 := jI_S hj hne (show w < 1000 by omega)
          obtain ⟨h1, h2, h3⟩ := ih (i + 1) _ _ _ (by omega) g1 g3
          exact ⟨h1, g2.tr h2, h3⟩
        · rw [et, e1, e2, if_pos rfl, List.append_nil]
          obtain ⟨g1, g2⟩ := jn_mt (K := K) (B := B) hN hm hj.2.1 hiN ht (w := 1000) (by omega)
          rw [jn_far hj.2.1 hj.2.2.2.2] at g1
          obtain ⟨h1, h2, h3⟩ := ih (i + 1) _ D fs (by omega) g1 hj
          exact ⟨h1, g2.tr h2, h3⟩
    · have ew : k_wallLoss N K A (nI i) (nI (2 + wt)) = (-1 : Int32) := by rw [k_wallLoss, eS_j R hiN, if_neg c1]
      rw [if_neg c1, if_pos ew, List.append_nil]
      exact ih (i + 1) Q D fs (by omega) hm hj
theorem l147 (R : Rel N K A B) {wt : Nat} (hwt : wt < 2) {wd : Int32} (hwd : ¬ wd = (0 : Int32)) : ∀ (k i : Nat) (Q : Nat → Nat → Int32) (D : Nat → Nat → Nat) (fs : List (Nat × Nat × Nat)), i + k = K → mt N Q D → jI N fs D →
    mt N (m_findLosses_147 N K B (nI wt) wd k i Q) (jns (kdl N K A (nI (2 + wt)) k i) D) ∧ r2 Q (m_findLosses_147 N K B (nI wt) wd k i Q) ∧ jI N (fs ++ kdl N K A (nI (2 + wt)) k i) (jns (kdl N K A (nI (2 + wt)) k i) D) := by
  have hN := R.hN
  intro k
  induction k with
  | zero => intro i Q D fs _ hm hj; exact ⟨hm, r2.rf, by rw [kdl, List.append_nil]; exact hj⟩
  | succ k ih =>
    intro i Q D fs hi hm hj
    have hiK : i < K := by omega
    obtain ⟨f, t, hf, ht, ef, et, hne, -, -⟩ := R.de hiK
    obtain ⟨d6, d7, -, -⟩ := R.dr hiK
    rw [m147_S, kdl, jns_app, kd1, ← List.append_assoc, if_neg hwd, d6, d7, ef, et]
    rcases dl_eq R hiK hwt _ _ rfl rfl with ⟨w, hw, e1, e2⟩ | ⟨e1, e2⟩
    · rw [e1, e2, if_neg (nI_m1 (N := 30) (by omega) (by omega)), nI_clamp (by omega), nI_clamp (by omega), nI_clamp (by omega)]
      obtain ⟨g1, g2⟩ := jn_mt (K := K) (B := B) hN hm hj.2.1 hf ht (w := w) (by omega)
      have g3 := jI_S hj hne (show w < 1000 by omega)
      obtain ⟨h1, h2, h3⟩ := ih (i + 1) _ _ _ (by omega) g1 g3
      exact ⟨h1, g2.tr h2, h3⟩
    · rw [e1, e2, if_pos rfl, List.append_nil]
      obtain ⟨g1, g2⟩ := jn_mt (K := K) (B := B) hN hm hj.2.1 hf ht (w := 1000) (by omega)
      rw [jn_far hj.2.1 hj.2.2.2.2] at g1
      obtain ⟨h1, h2, h3⟩ := ih (i + 1) _ D fs (by omega) g1 hj
      exact ⟨h1, g2.tr h2, h3⟩
def mx (D : Nat → Nat → Nat) (m a b : Nat) : Nat → Nat → Nat := fun p q => if p < a ∨ (p = a ∧ q < b) then fwp D m p q else D p q
theorem mt_eq {D D' : Nat → Nat → Nat} (h : mt N Q D) (e : ∀ a b, a < N → b < N → D' a b = D a b) : mt N Q D' := fun a b ha hb => by rw [e a b ha hb]; exact h a b ha hb
theorem l241 (hN : N ≤ 30) {D : Nat → Nat → Nat} {m a : Nat} (hm : m < N) (ha : a < N) (h0 : D m m = 0) (hb : ∀ a b, a < N → b < N → D a b ≤ 1000) : ∀ (k i : Nat) (Q : Nat → Nat → Int32), i + k = N → mt N Q (mx D m a i) → mt N (m_findLosses_241 N K B m a k i Q) (mx D m a N) ∧ r2 Q (m_findLosses_241 N K B m a k i Q) := by
  have col : ∀ p i, mx D m a i p m = D p m := fun p i => by
    unfold mx
    by_cases c : p < a ∨ (p = a ∧ m < i)
    · rw [if_pos c]
      rcases fwp_or D m p m with e | e
      · exact e
      · rw [e, h0]; omega
    · rw [if_neg c]
  have row : ∀ q i, mx D m a i m q = D m q := fun q i => by
    unfold mx
    by_cases c : m < a ∨ (m = a ∧ q < i)
    · rw [if_pos c]
      rcases fwp_or D m m q with e | e
      · exact e
      · rw [e, h0]; omega
    · rw [if_neg c]
  intro k
  induction k with
  | zero =>
    intro i Q hi h
    obtain rfl : i = N := by omega
    exact ⟨h, r2.rf⟩
  | succ k ih =>
    intro i Q hi h
    have hiN : i < N := by omega
    have e1 := (h a i ha hiN).1
    have e2 := (h a m ha hm).1
    have e3 := (h m i hm hiN).1
    have e4 : mx D m a i a i = D a i := by unfold mx; rw [if_neg (by omega)]
    rw [e4] at e1
    rw [col] at e2
    rw [row] at e3
    have b1 := hb a i ha hiN
    have b2 := hb a m ha hm
    have b3 := hb m i hm hiN
    have key : mt N (sU Q 2 (30 * a + i) (nI (fwp D m a i))) (mx D m a (i + 1)) := by
      intro p q hp hq
      rw [sU_same]
      by_cases c : p = a ∧ q = i
      · rw [c.1, c.2, pk_us]
        unfold mx
        rw [if_pos (Or.inr ⟨rfl, by omega⟩)]
        exact ⟨rfl, Nat.le_trans (fwp_le D m a i).1 b1⟩
      · rw [pk_un (show 30 * p + q ≠ 30 * a + i by omega)]
        have e5 : mx D m a (i + 1) p q = mx D m a i p q := by
          unfold mx
          by_cases c2 : p < a ∨ (p = a ∧ q < i)
          · rw [if_pos c2, if_pos (by omega)]
          · rw [if_neg c2, if_neg (by omega)]
        rw [e5]; exact h p q hp hq
    have e : m_findLosses_241 N K B m a (k + 1) i Q = m_findLosses_241 N K B m a k (i + 1) (sU Q 2 (30 * a + i) (nI (fwp D m a i))) := by
      rw [m_findLosses_241_S, e1, e2, e3, nI_add]
      unfold fwp
      by_cases c : D a i ≤ D a m + D m i
      · rw [if_pos (nI_le c (by omega)), if_pos c]
      · rw [if_neg (nI_ge (show D a m + D m i < D a i by omega) (by omega)), if_neg c]
    rw [e]
    obtain ⟨h1, h2⟩ := ih (i + 1) _ (by omega) key
    exact ⟨h1, (r2_sU _ _ _).tr h2⟩
theorem l229 (hN : N ≤ 30) {D : Nat → Nat → Nat} {m : Nat} (hm : m < N) (h0 : D m m = 0) (hb : ∀ a b, a < N → b < N → D a b ≤ 1000) : ∀ (k i : Nat) (Q : Nat → Nat → Int32), i + k = N → mt N Q (mx D m i 0) → mt N (m_findLosses_229 N K B m k i Q) (fwp D m) ∧ r2 Q (m_findLosses_229 N K B m k i Q) := by
  intro k
  induction k with
  | zero =>
    intro i Q hi h
    obtain rfl : i = N := by omega
    exact ⟨mt_eq h (fun a b ha hb => by unfold mx; rw [if_pos (Or.inl ha)]), r2.rf⟩
  | succ k ih =>
    intro i Q hi h
    rw [m_findLosses_229_S]
    obtain ⟨g1, g2⟩ := l241 (K := K) (B := B) hN hm (show i < N by omega) h0 hb N 0 Q (by omega) h
    obtain ⟨h1, h2⟩ := ih (i + 1) _ (by omega) (mt_eq g1 (fun a b ha hb => by
      unfold mx
      by_cases c : a < i + 1
      · rw [if_pos (Or.inl c), if_pos (by omega)]
      · rw [if_neg (by omega), if_neg (by omega)]))
    exact ⟨h1, g2.tr h2⟩
theorem l218 (hN : N ≤ 30) {E : Nat → Nat → Nat → Prop} : ∀ (k m : Nat) (Q : Nat → Nat → Int32) (D : Nat → Nat → Nat), m + k = N → mt N Q D → fwI2 N E D m → mt N (m_findLosses_218 N K B k m Q) (fws D k m) ∧ r2 Q (m_findLosses_218 N K B k m Q) := by
  intro k
  induction k with
  | zero => intro m Q D _ h _; exact ⟨h, r2.rf⟩
  | succ k ih =>
    intro m Q D hm h hf
    rw [m_findLosses_218_S]
    obtain ⟨g1, g2⟩ := l229 (K := K) (B := B) (D := D) hN (show m < N by omega) (hf.1 m (by omega)) (fun a b ha hb => hf.2.2.2.2 a b ha hb) N 0 Q (by omega) (mt_eq h (fun a b ha hb => by unfold mx; rw [if_neg (by omega)]))
    obtain ⟨h1, h2⟩ := ih (m + 1) _ (fwp D m) (by omega) g1 (fwI2_step (by omega) hf)
    exact ⟨h1, g2.tr h2⟩
def ked (N K : Nat) (A : Nat → Nat → Int32) (wt : Nat) (wd : Int32) : List (Nat × Nat × Nat) := kwl N K A (nI (2 + wt)) N 0 ++ (if wd = (0 : Int32) then [] else kdl N K A (nI (2 + wt)) K 0)
theorem m147_0 (what : Int32) (Q : Nat → Nat → Int32) : ∀ (k i : Nat), m_findLosses_147 N K B what (0 : Int32) k i Q = Q := by
  intro k i
  cases k with
  | zero => rfl
  | succ k => rw [m147_S, if_pos rfl]
/-- findLosses, whole -/
theorem loss_ok (R : Rel N K A B) {wt : Nat} (hwt : wt < 2) (wd : Int32) (Q : Nat → Nat → Int32) : ∃ D, mt N (m_findLosses N K B Q (nI wt) wd) D ∧ fwOK N (El (ked N K A wt wd)) D ∧ r2 Q (m_findLosses N K B Q (nI wt) wd) := by
  have hN := R.hN
  have h0 := l2_mt (K := K) (B := B) (Q := Q) hN
  have r0 := (l2 (K := K) (B := B) hN N 0 Q (by omega)).1
  obtain ⟨h1, r1, j1⟩ := l61 R hwt N 0 _ d0 [] (by omega) h0 (jI_0 N)
  rw [m_findLosses, ked]
  by_cases c : wd = (0 : Int32)
  · rw [if_pos c, c, m147_0, List.append_nil]
    rw [List.nil_append] at j1
    obtain ⟨h2, r3⟩ := l218 (K := K) (B := B) hN N 0 _ _ (by omega) h1 (jI_fw j1)
    exact ⟨_, h2, fws_ok N 0 _ (by omega) (jI_fw j1), (r0.tr r1).tr r3⟩
  · rw [if_neg c]
    obtain ⟨h3, r4, j3⟩ := l147 R hwt c K 0 _ _ _ (by omega) h1 j1
    rw [List.nil_append] at j3
    obtain ⟨h2, r3⟩ := l218 (K := K) (B := B) hN N 0 _ _ (by omega) h3 (jI_fw j3)
    exact ⟨_, h2, fws_ok N 0 _ (by omega) (jI_fw j3), ((r0.tr r1).tr r4).tr r3⟩
end LS
