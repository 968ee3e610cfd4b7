/-! space, loses, hears alike. -/
def RQ (A : Nat → Nat → Int32) (p q : Int32 × (Nat → Nat → Int32)) : Prop := p.1 = q.1 ∧ eqv A p.2
theorem nI_leJ {a b : Nat} (ha : a ≤ 1000) (hb : b ≤ 1000) : nI a ≤ nI b ↔ a ≤ b := by
  rw [Int32.le_iff_toInt_le, nI_toInt (by omega), nI_toInt (by omega)]
  omega
section SP
variable {N K : Nat} {A B Q : Nat → Nat → Int32}
theorem isSpace_j (hN : N ≤ 30) {x : Int32} (h : ¬ k_isSpace N K A x = (0 : Int32)) : ∃ j : Nat, j < N ∧ x = nI j := by
  rw [k_isSpace] at h
  by_cases c0 : k_sortOf N K A x = (0 : Int32)
  · exact isThing_j hN (sortOf_k c0 (by decide))
  · rw [if_neg c0] at h
    by_cases c1 : k_sortOf N K A x = (1 : Int32)
    · exact isThing_j hN (sortOf_k c1 (by decide))
    · rw [if_neg c1] at h; exact absurd rfl h
theorem what01 {x : Int32} (h0 : ¬ x < (0 : Int32)) (h1 : x ≤ (1 : Int32)) : ∃ wt : Nat, wt < 2 ∧ x = nI wt := by
  have a := Int32.le_iff_toInt_le.mp h1
  have b : ¬ x.toInt < (0 : Int32).toInt := fun q => h0 (Int32.lt_iff_toInt_lt.mpr q)
  rw [show (1 : Int32).toInt = 1 from by decide] at a
  rw [show (0 : Int32).toInt = 0 from by decide] at b
  rcases (show x.toInt = 0 ∨ x.toInt = 1 by omega) with e | e
  · exact ⟨0, by omega, Int32.toInt_inj.mp (e.trans (by decide))⟩
  · exact ⟨1, by omega, Int32.toInt_inj.mp (e.trans (by decide))⟩
theorem great_ok (R : Rel N K A B) {wt : Nat} (hwt : wt < 2) {es : List (Nat × Nat × Nat)} (hin : ∀ q ∈ es, q.1 < N ∧ q.2.1 < N) {D : Nat → Nat → Nat} (hm : mt N Q D) (hf : fwOK N (El es) D) {L0 : Nat → Nat}
    (h1 : ∀ x t, x < N → t < N → k_spaceOf N K A (nI x) = nI t → gv B wt x ≤ L0 t) (h2 : ∀ s, L0 s = 0 ∨ ∃ x, x < N ∧ k_spaceOf N K A (nI x) = nI s ∧ L0 s = gv B wt x) :
    ∃ G : Nat → Nat, (∀ s, s < N → m_greatest N K B Q (nI s) (nI wt) = nI (G s) ∧ G s ≤ 9) ∧ gOK (El es) L0 (inN N) G := by
  have key : ∀ s, s < N → ∃ g, m_greatest N K B Q (nI s) (nI wt) = nI g ∧ g ≤ 9 ∧ (∀ x t, x < N → t < N → k_spaceOf N K A (nI x) = nI t → gv B wt x - D t s ≤ g) ∧ (g = 0 ∨ ∃ x t, x < N ∧ t < N ∧ k_spaceOf N K A (nI x) = nI t ∧ g = gv B wt x - D t s ∧ 0 < g) := fun s hs => by
    obtain ⟨g, e1, e2, -, e4, e5⟩ := great5 R hwt hs hm N 0 0 (by omega) (by omega)
    exact ⟨g, e1, e2, fun x t hx ht he => e4 x t (by omega) hx ht he, e5⟩
  have hG : ∀ s, s < N → m_greatest N K B Q (nI s) (nI wt) = nI ((m_greatest N K B Q (nI s) (nI wt)).toNatClampNeg) ∧ (m_greatest N K B Q (nI s) (nI wt)).toNatClampNeg ≤ 9 ∧ (∀ x t, x < N → t < N → k_spaceOf N K A (nI x) = nI t → gv B wt x - D t s ≤ (m_greatest N K B Q (nI s) (nI wt)).toNatClampNeg) ∧ ((m_greatest N K B Q (nI s) (nI wt)).toNatClampNeg = 0 ∨ ∃ x t, x < N ∧ t < N ∧ k_spaceOf N K A (nI x) = nI t ∧ (m_greatest N K B Q (nI s) (nI wt)).toNatClampNeg = gv B wt x - D t s ∧ 0 < (m_greatest N K B Q (nI s) (nI wt)).toNatClampNeg) := fun s hs => by
    obtain ⟨g, e1, e2, e3, e4⟩ := key s hs
    rw [e1, nI_clamp (by omega)]
    exact ⟨rfl, e2, e3, e4⟩
  refine ⟨fun s => (m_greatest N K B Q (nI s) (nI wt)).toNatClampNeg, fun s hs => ⟨(hG s hs).1, (hG s hs).2.1⟩, ?_⟩
  generalize hgg : (fun s => (m_greatest N K B Q (nI s) (nI wt)).toNatClampNeg) = G
  have hG' : ∀ s, s < N → (∀ x t, x < N → t < N → k_spaceOf N K A (nI x) = nI t → gv B wt x - D t s ≤ G s) ∧ (G s = 0 ∨ ∃ x t, x < N ∧ t < N ∧ k_spaceOf N K A (nI x) = nI t ∧ G s = gv B wt x - D t s ∧ 0 < G s) := fun s hs => by
    rw [← hgg]; exact (hG s hs).2.2
  clear hG hgg key
  have hle : ∀ s, s < N → L0 s ≤ G s := fun s hs => by
    rcases h2 s with e | ⟨x, hx, e1, e2⟩
    · omega
    · have := (hG' s hs).1 x s hx hs e1
      rw [hf.1 s hs] at this
      omega
  refine ⟨fun s hs => ?_, fun s hs => hle s (inN_iff.mp hs), fun y x w hy hx hE => ?_⟩
  · have hs' := inN_iff.mp hs
    rcases (hG' s hs').2 with e | ⟨x, t, hx, ht, e1, e2, e3⟩
    · have := hle s hs'
      exact ⟨0, hs, by omega⟩
    · have hv := (gv_ok R hwt hx).2
      obtain ⟨k, hk⟩ := hf.2.2.2.1 t s ht hs' (by omega)
      have ga := wk_gA (L0 := L0) (P := inN N) (fun y x w hE => by
        have := El_in hin hE
        exact ⟨inN_iff.mpr this.1, inN_iff.mpr this.2⟩) (inN_iff.mpr ht) k hk
      have l1 := h1 x t hx ht e1
      have : L0 t - D t s = G s := by
        rcases h2 t with z | ⟨x', hx', z1, z2⟩
        · omega
        · have := (hG' s hs').1 x' t hx' ht z1
          omega
      rw [this] at ga
      exact ⟨k, ga⟩
  · have hy' := inN_iff.mp hy
    have hx' := inN_iff.mp hx
    rcases (hG' y hy').2 with e | ⟨z, t, hz, ht, e1, e2, e3⟩
    · omega
    · have a := (hG' x hx').1 z t hz ht e1
      have b := hf.2.1 t x y ht hx' hy'
      have c := hf.2.2.1 y x w hy' hx' hE
      omega
/-- the class's levels are the reference's greatest -/
theorem lev_eq (R : Rel N K A B) {wt : Nat} (hwt : wt < 2) {D : Nat → Nat → Nat} (hm : mt N Q D) (hf : fwOK N (El (ked N K A wt 1)) D) :
    eqv A (k_fillFromAllThings N K A (nI (2 + wt))) ∧ ∀ s, s < N → k_fillFromAllThings N K A (nI (2 + wt)) 10 s = m_greatest N K B Q (nI s) (nI wt) ∧ ∃ g, g ≤ 9 ∧ m_greatest N K B Q (nI s) (nI wt) = nI g := by
  obtain ⟨A2, L2, g1, g2, g3, g4, g5, g6⟩ := fill10 R hwt N 0 (fU A) (fun _ => 0) (by omega) fU_ev (fU_0 R.hN) (fun _ => by omega)
  rw [k_fillFromAllThings, g1]
  obtain ⟨L, l1, l2, l3⟩ := lev_ok R (wt := wt) g2 g3
  obtain ⟨G, h1, h2⟩ := great_ok R hwt (ked_in R wt 1) hm hf (L0 := L2) (fun x t hx ht e => g5 x t (by omega) hx ht e) g6
  refine ⟨l3, fun s hs => ⟨?_, G s, (h1 s hs).2, (h1 s hs).1⟩⟩
  rw [(l1 s hs).1, (h1 s hs).1, gOK_uniq l2 h2 (inN_iff.mpr hs)]
theorem p_space (R : Rel N K A B) (x what : Int32) : RQ A (k_space N K A x what) (m_space N K B Q x what) := by
  have hN := R.hN
  rw [k_space, m_space, eSp R]
  by_cases c1 : k_isSpace N K A x = (0 : Int32)
  · rw [if_pos c1, if_pos c1]; exact ⟨rfl, eqv.rf⟩
  · rw [if_neg c1, if_neg c1]
    by_cases c2 : what < (0 : Int32)
    · rw [if_pos c2, if_pos (inM_0.mpr (Or.inl c2))]; exact ⟨rfl, eqv.rf⟩
    · rw [if_neg c2]
      by_cases c3 : what ≤ (1 : Int32)
      · rw [if_pos c3, if_neg (fun q => (inM_0.mp q).elim c2 (fun z => absurd c3 (Int32.not_le.mpr z)))]
        obtain ⟨wt, hwt, rfl⟩ := what01 c2 c3
        obtain ⟨j, hj, rfl⟩ := isSpace_j hN c1
        obtain ⟨D, d1, d2, -⟩ := loss_ok R hwt 1 Q
        rw [show (2 : Int32) = nI 2 from rfl, nI_add, nI_clamp (by omega)]
        obtain ⟨e1, e2⟩ := lev_eq R hwt d1 d2
        exact ⟨(e2 j hj).1, e1⟩
      · rw [if_neg c3, if_pos (inM_0.mpr (Or.inr (Int32.not_le.mp c3)))]; exact ⟨rfl, eqv.rf⟩
/-- from one place -/
theorem one_ok (R : Rel N K A B) {wt s : Nat} (hs : s < N) {D : Nat → Nat → Nat} (hf : fwOK N (El (ked N K A wt 1)) D) :
    eqv A (k_fillFromOneSpace N K A (nI s) (nI (2 + wt))) ∧ ∀ t, t < N → k_lossAt N K (k_fillFromOneSpace N K A (nI s) (nI (2 + wt))) (nI t) = (if D s t < 1000 then nI (D s t) else (-1 : Int32)) := by
  have hN := R.hN
  have hl := lvs_up (fU_0 (A := A) hN) s 1000 (by omega)
  rw [k_fillFromOneSpace, if_neg (isThing_n0 hN hs), nI_clamp (by omega)]
  obtain ⟨L, l1, l2, l3⟩ := lev_ok R (wt := wt) ((fU_ev (A := A)).tr (eqv_sU _ s (nI 1000))) hl
  have hin := ked_in R wt 1
  have hM : gOK (El (ked N K A wt 1)) (va_up (fun _ => 0) s 1000) (inN N) (fun t => 1000 - D s t) := by
    refine ⟨fun t ht => ?_, fun t ht => ?_, fun y x w hy hx hE => ?_⟩
    · have ht' := inN_iff.mp ht
      by_cases c : D s t < 1000
      · obtain ⟨k, hk⟩ := hf.2.2.2.1 s t hs ht' c
        have ga := wk_gA (L0 := va_up (fun _ => 0) s 1000) (P := inN N) (fun y x w hE => by
          have := El_in hin hE
          exact ⟨inN_iff.mpr this.1, inN_iff.mpr this.2⟩) (inN_iff.mpr hs) k hk
        rw [va_up_self] at ga
        exact ⟨k, ga⟩
      · have hne : t ≠ s := fun q => by rw [q, hf.1 s hs] at c; omega
        refine ⟨0, ht, ?_⟩
        rw [va_up_ne _ _ hne]
        show 1000 - D s t = 0
        omega
    · by_cases c : t = s
      · subst c; rw [va_up_self]; show 1000 ≤ 1000 - D t t; rw [hf.1 t hs]; omega
      · rw [va_up_ne _ _ c]; exact Nat.zero_le _
    · have hy' := inN_iff.mp hy
      have hx' := inN_iff.mp hx
      have b := hf.2.1 s x y hs hx' hy'
      have c := hf.2.2.1 y x w hy' hx' hE
      show 1000 - D s y - w ≤ 1000 - D s x
      omega
  refine ⟨l3, fun t ht => ?_⟩
  have e := gOK_uniq l2 hM (inN_iff.mpr ht)
  have hb := hf.2.2.2.2 s t hs ht
  rw [k_lossAt, if_neg (isThing_n0 hN ht), nI_clamp (by omega), show (1000 : Int32) = nI 1000 from rfl, (l1 t ht).1, e]
  by_cases c : D s t < 1000
  · rw [if_pos c, if_neg (show ¬ nI (1000 - D s t) ≤ (0 : Int32) from fun q => by
      have := (nI_leJ (a := 1000 - D s t) (b := 0) (by omega) (by omega)).mp q
      omega), pk_sub (by omega)]
    exact congrArg nI (by omega)
  · rw [if_neg c, if_pos (show nI (1000 - D s t) ≤ (0 : Int32) from (nI_leJ (a := 1000 - D s t) (b := 0) (by omega) (by omega)).mpr (by omega))]
theorem p_loses (R : Rel N K A B) (src t what : Int32) : RQ A (k_loses N K A src t what) (m_loses N K B Q src t what) := by
  have hN := R.hN
  rw [k_loses, m_loses, eSp R, eSp R]
  by_cases c1 : k_isSpace N K A src = (0 : Int32)
  · rw [if_pos c1, if_pos c1]; exact ⟨rfl, eqv.rf⟩
  rw [if_neg c1, if_neg c1]
  by_cases c4 : k_isSpace N K A t = (0 : Int32)
  · rw [if_pos c4, if_pos c4]; exact ⟨rfl, eqv.rf⟩
  rw [if_neg c4, if_neg c4]
  by_cases c2 : what < (0 : Int32)
  · rw [if_pos c2, if_pos (inM_0.mpr (Or.inl c2))]; exact ⟨rfl, eqv.rf⟩
  rw [if_neg c2]
  by_cases c3 : what ≤ (1 : Int32)
  · rw [if_pos c3, if_neg (fun q => (inM_0.mp q).elim c2 (fun z => absurd c3 (Int32.not_le.mpr z)))]
    obtain ⟨wt, hwt, rfl⟩ := what01 c2 c3
    obtain ⟨j, hj, rfl⟩ := isSpace_j hN c1
    obtain ⟨u, hu, rfl⟩ := isSpace_j hN c4
    obtain ⟨D, d1, d2, -⟩ := loss_ok R hwt 1 Q
    rw [show (2 : Int32) = nI 2 from rfl, nI_add, ix2 hN hj hu, (d1 j u hj hu).1]
    obtain ⟨e1, e2⟩ := one_ok R hj d2
    have hb := d2.2.2.2.2 j u hj hu
    by_cases c : D j u < 1000
    · rw [if_pos (show nI (D j u) < (1000 : Int32) from nI_lt (b := 1000) c (by omega))]
      exact ⟨(e2 u hu).trans (if_pos c), e1⟩
    · rw [if_neg (show ¬ nI (D j u) < (1000 : Int32) from nI_nlt (a := D j u) (b := 1000) (by omega) (by omega))]
      exact ⟨(e2 u hu).trans (if_neg c), e1⟩
  · rw [if_neg c3, if_pos (inM_0.mpr (Or.inr (Int32.not_le.mp c3)))]; exact ⟨rfl, eqv.rf⟩
theorem hears_loop (R : Rel N K A B) {s : Nat} (hs : s < N) (who : Int32) {A1 Q1 : Nat → Nat → Int32} {D : Nat → Nat → Nat} (he : eqv A A1) (hm : mt N Q1 D) (hlo : ∀ t, t < N → k_lossAt N K A1 (nI t) = (if D t s < 1000 then nI (D t s) else (-1 : Int32))) :
    ∀ (k i : Nat) (v : Int32) (acc : Nat), i + k = N → acc ≤ 9 → (k_hears_38 N K who k i A1 v (nI acc)).1 = (m_hears_39 N K B who (nI s) k i Q1 v (nI acc)).1 ∧ (k_hears_38 N K who k i A1 v (nI acc)).2 = A1 := by
  have hN := R.hN
  intro k
  induction k with
  | zero => intro i v acc _ _; exact ⟨rfl, rfl⟩
  | succ k ih =>
    intro i v acc hi h9
    have hiN : i < N := by omega
    have hp : (0 : Int32) ≤ nI acc := nI_pos' (by omega)
    rw [k_hears_38_S, m_hears_39_S, ← eSc (Q := Q1) R hiN]
    by_cases c1 : nI i = who
    · rw [if_pos c1, if_pos c1, if_pos hp]; exact ih _ _ _ (by omega) h9
    rw [if_neg c1, if_neg c1, k_partHeardOf, ev_spaceOf he, ev_markOf he]
    rcases spaceOf_v (N := N) (K := K) (A := A) hN (nI i) with e | ⟨t, ht, e⟩
    · have : k_lossAt N K A1 (-1 : Int32) = (-1 : Int32) := by rw [k_lossAt, if_pos isThing_m1]
      rw [e, this, if_pos rfl, if_pos hp, if_pos rfl]; exact ih _ _ _ (by omega) h9
    · rw [e, if_neg (nI_m1 hN ht), hlo t ht, ix2 hN ht hs, (hm t s ht hs).1]
      have hb := (hm t s ht hs).2
      by_cases c2 : D t s < 1000
      · obtain ⟨v1, v2⟩ := gv_ok R (wt := 1) (by omega) hiN
        have em := eMk_j R hiN (m := 3) (by omega)
        rw [if_pos c2, if_neg (show ¬ nI (D t s) = (-1 : Int32) from fun q => nI_pos (n := D t s) (by omega) (by rw [q]; decide)), if_neg (show ¬ (1000 : Int32) ≤ nI (D t s) from fun q => by
          have := (nI_leJ (a := 1000) (b := D t s) (by omega) (by omega)).mp q
          omega), show (3 : Int32) = nI 3 from rfl, em, v1]
        by_cases c3 : gv B 1 i - D t s ≤ acc
        · rw [if_pos ((nI_subLe2 (by omega) hb (by omega)).mpr c3), if_pos ((nI_subLe2 (by omega) hb (by omega)).mpr c3)]; exact ih _ _ _ (by omega) h9
        · rw [if_neg (fun z => c3 ((nI_subLe2 (by omega) hb (by omega)).mp z)), if_neg (fun z => c3 ((nI_subLe2 (by omega) hb (by omega)).mp z)), pk_sub (by omega)]; exact ih _ _ _ (by omega) (by omega)
      · rw [if_neg c2, if_pos rfl, if_pos hp, if_pos (show (1000 : Int32) ≤ nI (D t s) from (nI_leJ (a := 1000) (b := D t s) (by omega) (by omega)).mpr (by omega))]; exact ih _ _ _ (by omega) h9
theorem p_hears (R : Rel N K A B) (who : Int32) : RQ A (k_hears N K A who) (m_hears N K B Q who) := by
  have hN := R.hN
  rw [k_hears, m_hears]
  by_cases c1 : k_isPerson N K A who = (0 : Int32)
  · rw [if_pos c1, if_pos ((eP_0 R who).mpr c1)]; exact ⟨rfl, eqv.rf⟩
  rw [if_neg c1, if_neg (fun q => c1 ((eP_0 R who).mp q))]
  obtain ⟨w, hw, rfl⟩ := isThing_j hN (sortOf_k (isPerson_s c1) (by decide))
  rw [← eSc (Q := Q) R hw]
  rcases spaceOf_v (N := N) (K := K) (A := A) hN (nI w) with e | ⟨s, hs, e⟩
  · rw [if_pos e, if_pos e]; exact ⟨rfl, eqv.rf⟩
  rw [e, if_neg (nI_m1 hN hs), if_neg (nI_m1 hN hs)]
  obtain ⟨D, d1, d2, -⟩ := loss_ok R (wt := 1) (by omega) 1 Q
  obtain ⟨e1, e2⟩ := one_ok R hs d2
  have hh := hears_loop R hs (nI w) e1 d1 (fun t ht => by
    rw [e2 t ht, fwOK_sym d2 (fun y x w hE => El_in (ked_in R 1 1) hE) (fun y x w hE => El_sym hE) hs ht]) N 0 (-1 : Int32) 0 (by omega) (by omega)
  exact ⟨hh.1, by rw [show k_hears_38 N K (nI w) N 0 (k_fillFromOneSpace N K A (nI s) (3 : Int32)) (-1 : Int32) (0 : Int32) = k_hears_38 N K (nI w) N 0 (k_fillFromOneSpace N K A (nI s) (nI (2 + 1))) (-1 : Int32) (nI 0) from rfl, hh.2]; exact e1⟩
end SP
