/-! BRIGHT and LOUD, what is lost: space, loses. -/
section LI
variable {N K : Nat} {A B Q : Nat → Nat → Int32}
def inN (N : Nat) : Nat → Bool := fun i => decide (i < N)
theorem inN_iff {i : Nat} : inN N i = true ↔ i < N := by unfold inN; exact decide_eq_true_iff
theorem kw1_ev {A' : Nat → Nat → Int32} (h : eqv A A') (mk : Int32) (i : Nat) : kw1 N K A' mk i = kw1 N K A mk i := by
  rw [kw1, kw1, ev_wallLoss h, ev_spaceOf h]
theorem kwl_ev {A' : Nat → Nat → Int32} (h : eqv A A') (mk : Int32) : ∀ k i : Nat, kwl N K A' mk k i = kwl N K A mk k i := by
  intro k
  induction k with
  | zero => intro i; rfl
  | succ k ih => intro i; rw [kwl, kwl, kw1_ev h, ih]
theorem kdl_ev {A' : Nat → Nat → Int32} (h : eqv A A') (mk : Int32) : ∀ k i : Nat, kdl N K A' mk k i = kdl N K A mk k i := by
  intro k
  induction k with
  | zero => intro i; rfl
  | succ k ih => intro i; rw [kdl, kdl, kd1, kd1, ev_doorLoss h, h 6 (by decide), h 7 (by decide), ih]
theorem kwl_in (hN : N ≤ 30) (mk : Int32) : ∀ k i : Nat, i + k = N → ∀ q ∈ kwl N K A mk k i, q.1 < N ∧ q.2.1 < N := by
  intro k
  induction k with
  | zero => intro i _ q hq; cases hq
  | succ k ih =>
    intro i hi q hq
    rw [kwl] at hq
    rcases List.mem_append.mp hq with h | h
    · rw [kw1] at h
      by_cases c1 : k_wallLoss N K A (nI i) mk = (-1 : Int32)
      · rw [if_pos c1] at h; cases h
      · rw [if_neg c1] at h
        rcases spaceOf_v (N := N) (K := K) (A := A) hN (nI i) with e | ⟨t, ht, e⟩
        · rw [if_pos e] at h; cases h
        · rw [e, if_neg (nI_m1 hN ht), List.mem_singleton] at h
          rw [h]
          exact ⟨by show i < N; omega, by show (nI t).toNatClampNeg < N; rw [nI_clamp (by omega)]; exact ht⟩
    · exact ih (i + 1) (by omega) q h
theorem drs_of (R : Rel N K A B) : drs N K A := fun d hd => by
  obtain ⟨f, t, hf, ht, ef, et, -⟩ := R.de hd
  obtain ⟨d6, d7, -⟩ := R.dr hd
  exact ⟨f, t, hf, ht, d6.trans ef, d7.trans et⟩
theorem kdl_in (hN : N ≤ 30) (hd : drs N K A) (mk : Int32) : ∀ k i : Nat, i + k = K → ∀ q ∈ kdl N K A mk k i, q.1 < N ∧ q.2.1 < N := by
  intro k
  induction k with
  | zero => intro i _ q hq; cases hq
  | succ k ih =>
    intro i hi q hq
    rw [kdl] at hq
    rcases List.mem_append.mp hq with h | h
    · rw [kd1] at h
      by_cases c1 : k_doorLoss N K A (nI i) mk = (-1 : Int32)
      · rw [if_pos c1] at h; cases h
      · obtain ⟨f, t, hf, ht, ef, et⟩ := hd i (by omega)
        rw [if_neg c1, ef, et, List.mem_singleton] at h
        rw [h]
        exact ⟨by show (nI f).toNatClampNeg < N; rw [nI_clamp (by omega)]; exact hf, by show (nI t).toNatClampNeg < N; rw [nI_clamp (by omega)]; exact ht⟩
    · exact ih (i + 1) (by omega) q h
theorem ked_in (R : Rel N K A B) (wt : Nat) (wd : Int32) : ∀ q ∈ ked N K A wt wd, q.1 < N ∧ q.2.1 < N := by
  intro q hq
  rw [ked] at hq
  rcases List.mem_append.mp hq with h | h
  · exact kwl_in R.hN _ N 0 (by omega) q h
  · by_cases c : wd = (0 : Int32)
    · rw [if_pos c] at h; cases h
    · rw [if_neg c] at h; exact kdl_in R.hN (drs_of R) _ K 0 (by omega) q h
theorem El_in {es : List (Nat × Nat × Nat)} (h : ∀ q ∈ es, q.1 < N ∧ q.2.1 < N) {y x w : Nat} (hE : El es y x w) : y < N ∧ x < N := by
  obtain ⟨q, h1, -, h3⟩ := hE
  have := h q h1
  rcases h3 with ⟨e1, e2⟩ | ⟨e1, e2⟩
  · rw [← e1, ← e2]; exact this
  · rw [← e1, ← e2]; exact ⟨this.2, this.1⟩
/-- the levels of the class, from any start -/
theorem lev_ok (R : Rel N K A B) {wt : Nat} {A1 : Nat → Nat → Int32} {L0 : Nat → Nat} (he : eqv A A1) (hl : lvs N A1 L0) : ∃ L, lvs N (k_spread N K A1 (nI (2 + wt))) L ∧ gOK (El (ked N K A wt 1)) L0 (inN N) L ∧ eqv A (k_spread N K A1 (nI (2 + wt))) := by
  have hN := R.hN
  have hd1 : drs N K A1 := fun d hd => by rw [he 6 (by decide), he 7 (by decide)]; exact drs_of R d hd
  obtain ⟨h1, h2⟩ := spread_rx (mk := nI (2 + wt)) hN R.hK hd1 hl
  have es : kwl N K A1 (nI (2 + wt)) N 0 ++ kdl N K A1 (nI (2 + wt)) K 0 = ked N K A wt 1 := by
    rw [kwl_ev he, kdl_ev he, ked, if_neg (by decide)]
  rw [es] at h2
  refine ⟨_, h2, ?_, he.tr h1⟩
  have hin := ked_in R wt 1
  refine rxr_ok (N := N) (fun i hi => inN_iff.mp hi) (fun y x w _ _ hE => hE) (fun q hq => ⟨inN_iff.mpr (hin q hq).1, inN_iff.mpr (hin q hq).2, ⟨q, hq, rfl, Or.inl ⟨rfl, rfl⟩⟩, ⟨q, hq, rfl, Or.inr ⟨rfl, rfl⟩⟩⟩) 30 0 L0 true (by omega) (fun x hx => ⟨0, hx, rfl⟩) (fun x v h => Nat.le_of_eq h.2) (fun q => absurd q (by decide))
theorem fU_0 (hN : N ≤ 30) : lvs N (fU A) (fun _ => 0) := fun x hx => by
  rw [fU, va_up_self, fl_g, if_pos (by omega)]
  exact ⟨rfl, Nat.zero_le _⟩
theorem fU_ev : eqv A (fU A) := fun k hk => va_up_ne _ _ hk
/-- what a thing gives -/
def gv (B : Nat → Nat → Int32) (wt x : Nat) : Nat := (B 2 (4 * x + (2 + wt))).toNatClampNeg
theorem gv_ok (R : Rel N K A B) {wt x : Nat} (hwt : wt < 2) (hx : x < N) : B 2 (4 * x + (2 + wt)) = nI (gv B wt x) ∧ gv B wt x ≤ 9 := by
  obtain ⟨v, hv, e⟩ := R.mv hx (m := 2 + wt) (by omega)
  have : gv B wt x = v := by rw [gv, e, nI_clamp (by omega)]
  rw [this]; exact ⟨e, hv⟩
theorem fill10 (R : Rel N K A B) {wt : Nat} (hwt : wt < 2) : ∀ (k i : Nat) (A1 : Nat → Nat → Int32) (L : Nat → Nat), i + k = N → eqv A A1 → lvs N A1 L → (∀ s, L s ≤ 9) →
    ∃ A2 L2, k_fillFromAllThings_10 N K (nI (2 + wt)) k i A1 = k_spread N K A2 (nI (2 + wt)) ∧ eqv A A2 ∧ lvs N A2 L2 ∧ (∀ s, L s ≤ L2 s) ∧
      (∀ x t, i ≤ x → x < N → t < N → k_spaceOf N K A (nI x) = nI t → gv B wt x ≤ L2 t) ∧ (∀ s, L2 s = L s ∨ ∃ x, x < N ∧ k_spaceOf N K A (nI x) = nI s ∧ L2 s = gv B wt x) := by
  have hN := R.hN
  intro k
  induction k with
  | zero => intro i A1 L hi he hl _; exact ⟨A1, L, rfl, he, hl, fun s => Nat.le_refl _, fun x t h1 h2 => by omega, fun s => Or.inl rfl⟩
  | succ k ih =>
    intro i A1 L hi he hl h9
    have hiN : i < N := by omega
    rw [k_fillFromAllThings_10_S, ev_spaceOf he, ev_markOf he]
    rcases spaceOf_v (N := N) (K := K) (A := A) hN (nI i) with e | ⟨t, ht, e⟩
    · rw [if_pos e]
      obtain ⟨A2, L2, g1, g2, g3, g4, g5, g6⟩ := ih (i + 1) A1 L (by omega) he hl h9
      refine ⟨A2, L2, g1, g2, g3, g4, fun x t h1 h2 h3 h4 => ?_, g6⟩
      by_cases c : x = i
      · subst c; exact absurd (h4.symm.trans e) (nI_m1 hN h3)
      · exact g5 x t (by omega) h2 h3 h4
    · obtain ⟨v1, v2⟩ := gv_ok R hwt hiN
      obtain ⟨u1, u2⟩ := hl t ht
      have em := eMk_j R hiN (m := 2 + wt) (by omega)
      rw [e, if_neg (nI_m1 hN ht), em, v1, nI_clamp (n := t) (by omega), u1]
      have ev : (if nI (L t) < nI (gv B wt i) then nI (gv B wt i) else nI (L t)) = nI (if L t < gv B wt i then gv B wt i else L t) := by
        by_cases c : L t < gv B wt i
        · rw [if_pos (nI_lt c (by omega)), if_pos c]
        · rw [if_neg (nI_nlt (by omega) (by omega)), if_neg c]
      rw [ev]
      have hm9 : (if L t < gv B wt i then gv B wt i else L t) ≤ 9 := by
        have := h9 t
        by_cases c : L t < gv B wt i
        · rw [if_pos c]; exact v2
        · rw [if_neg c]; exact this
      have hmL : L t ≤ (if L t < gv B wt i then gv B wt i else L t) := by
        by_cases c : L t < gv B wt i
        · rw [if_pos c]; omega
        · rw [if_neg c]; omega
      have hmv : gv B wt i ≤ (if L t < gv B wt i then gv B wt i else L t) := by
        by_cases c : L t < gv B wt i
        · rw [if_pos c]; omega
        · rw [if_neg c]; omega
      have hor : (if L t < gv B wt i then gv B wt i else L t) = L t ∨ (if L t < gv B wt i then gv B wt i else L t) = gv B wt i := by
        by_cases c : L t < gv B wt i
        · rw [if_pos c]; exact Or.inr rfl
        · rw [if_neg c]; exact Or.inl rfl
      generalize (if L t < gv B wt i then gv B wt i else L t) = n at hm9 hmL hmv hor ⊢
      obtain ⟨A2, L2, g1, g2, g3, g4, g5, g6⟩ := ih (i + 1) (sU A1 10 t (nI n)) (va_up L t n) (by omega) (he.tr (eqv_sU _ _ _)) (lvs_up hl t n (by omega)) (fun s => by
        by_cases c : s = t
        · subst c; rw [va_up_self]; exact hm9
        · rw [va_up_ne _ _ c]; exact h9 s)
      refine ⟨A2, L2, g1, g2, g3, fun s => ?_, fun x z h1 h2 h3 h4 => ?_, fun s => ?_⟩
      · have := g4 s
        by_cases c : s = t
        · subst c; rw [va_up_self] at this; omega
        · rw [va_up_ne _ _ c] at this; exact this
      · by_cases c : x = i
        · subst c
          obtain rfl : z = t := (nI_eq (by omega) (by omega)).mp (h4.symm.trans e)
          have := g4 z
          rw [va_up_self] at this
          omega
        · exact g5 x z (by omega) h2 h3 h4
      · rcases g6 s with h | h
        · by_cases c : s = t
          · subst c
            rw [va_up_self] at h
            rcases hor with q | q
            · exact Or.inl (h.trans q)
            · exact Or.inr ⟨i, hiN, e, h.trans q⟩
          · rw [va_up_ne _ _ c] at h; exact Or.inl h
        · exact Or.inr h
theorem nI_subLe2 {a w c : Nat} (ha : a ≤ 1000) (hw : w ≤ 1000) (hc : c ≤ 1000) : nI a - nI w ≤ nI c ↔ a - w ≤ c := by
  rw [Int32.le_iff_toInt_le, pk_sub_toInt (by omega) (by omega), nI_toInt (by omega)]
  omega
theorem great5 (R : Rel N K A B) {wt s : Nat} (hwt : wt < 2) (hs : s < N) {D : Nat → Nat → Nat} (hm : mt N Q D) : ∀ (k i acc : Nat), i + k = N → acc ≤ 9 →
    ∃ G, m_greatest_5 N K B Q (nI s) (nI wt) k i (nI acc) = nI G ∧ G ≤ 9 ∧ acc ≤ G ∧ (∀ x t, i ≤ x → x < N → t < N → k_spaceOf N K A (nI x) = nI t → gv B wt x - D t s ≤ G) ∧ (G = acc ∨ ∃ x t, x < N ∧ t < N ∧ k_spaceOf N K A (nI x) = nI t ∧ G = gv B wt x - D t s ∧ 0 < G) := by
  have hN := R.hN
  intro k
  induction k with
  | zero => intro i acc hi h9; exact ⟨acc, rfl, h9, Nat.le_refl _, fun x t h1 h2 => by omega, Or.inl rfl⟩
  | succ k ih =>
    intro i acc hi h9
    have hiN : i < N := by omega
    obtain ⟨v1, v2⟩ := gv_ok R hwt hiN
    have ei : ((nI ((4 * i) + 2)) + nI wt).toNatClampNeg = 4 * i + (2 + wt) := by rw [nI_add, nI_clamp (by omega)]; omega
    have hp : (0 : Int32) ≤ nI acc := nI_pos' (by omega)
    rw [m_greatest_5_S, ei, v1, ← eSc (Q := Q) R hiN]
    rcases spaceOf_v (N := N) (K := K) (A := A) hN (nI i) with e | ⟨t, ht, e⟩
    · rw [if_pos e, if_pos hp]
      obtain ⟨G, g1, g2, g3, g4, g5⟩ := ih (i + 1) acc (by omega) h9
      refine ⟨G, g1, g2, g3, fun x t h1 h2 h3 h4 => ?_, g5⟩
      by_cases c : x = i
      · subst c; exact absurd (h4.symm.trans e) (nI_m1 hN h3)
      · exact g4 x t (by omega) h2 h3 h4
    · obtain ⟨u1, u2⟩ := hm t s ht hs
      rw [e, if_neg (nI_m1 hN ht), ix2 hN ht hs, u1]
      have keep : gv B wt i - D t s ≤ acc → ∃ G, m_greatest_5 N K B Q (nI s) (nI wt) k (i + 1) (nI acc) = nI G ∧ G ≤ 9 ∧ acc ≤ G ∧ (∀ x t, i ≤ x → x < N → t < N → k_spaceOf N K A (nI x) = nI t → gv B wt x - D t s ≤ G) ∧ (G = acc ∨ ∃ x t, x < N ∧ t < N ∧ k_spaceOf N K A (nI x) = nI t ∧ G = gv B wt x - D t s ∧ 0 < G) := fun hle => by
        obtain ⟨G, g1, g2, g3, g4, g5⟩ := ih (i + 1) acc (by omega) h9
        refine ⟨G, g1, g2, g3, fun x z h1 h2 h3 h4 => ?_, g5⟩
        by_cases c : x = i
        · subst c
          obtain rfl : z = t := (nI_eq (by omega) (by omega)).mp (h4.symm.trans e)
          omega
        · exact g4 x z (by omega) h2 h3 h4
      by_cases c1 : D t s < 1000
      · rw [if_pos (show nI (D t s) < (1000 : Int32) from nI_lt (b := 1000) c1 (by omega))]
        by_cases c2 : gv B wt i - D t s ≤ acc
        · rw [if_pos ((nI_subLe2 (by omega) u2 (by omega)).mpr c2)]; exact keep c2
        · rw [if_neg (fun z => c2 ((nI_subLe2 (by omega) u2 (by omega)).mp z)), pk_sub (by omega)]
          obtain ⟨G, g1, g2, g3, g4, g5⟩ := ih (i + 1) (gv B wt i - D t s) (by omega) (by omega)
          refine ⟨G, g1, g2, by omega, fun x z h1 h2 h3 h4 => ?_, ?_⟩
          · by_cases c : x = i
            · subst c
              obtain rfl : z = t := (nI_eq (by omega) (by omega)).mp (h4.symm.trans e)
              exact g3
            · exact g4 x z (by omega) h2 h3 h4
          · rcases g5 with q | q
            · exact Or.inr ⟨i, t, hiN, ht, e, q, by omega⟩
            · exact Or.inr q
      · rw [if_neg (show ¬ nI (D t s) < (1000 : Int32) from nI_nlt (a := D t s) (b := 1000) (by omega) (by omega)), if_pos hp]
        exact keep (by omega)
end LI
