/-! take, give, barrier: the answers are alike, the relation is kept. -/
section TK
variable {N K : Nat} {A B Q : Nat → Nat → Int32}
theorem fb_own (R : Rel N K A B) {w j : Nat} (hw : w < N) (hj : j < N) (hne : w ≠ j) (h : B 1 j = nI w) : k_isWithin N K A (nI w) (nI j) = (0 : Int32) ∧ k_firstBarrier N K A (nI w) (nI j) = (-1 : Int32) := by
  have hN := R.hN
  have hwj : ¬ nI w = nI j := fun q => hne ((nI_eq (by omega) (by omega)).mp q)
  have hw1 := nI_m1 hN hw
  refine ⟨?_, ?_⟩
  · rw [eW (Q := B) R (nI_m1 hN hj) hw]
    by_cases c : m_isWithin N K B B (nI w) (nI j) = (0 : Int32)
    · exact c
    · have hh := hit_of hN R.hC ⟨w, hw, rfl⟩ c
      rw [nI_clamp (by omega)] at hh
      exact absurd (show hit N (B 1) 32 (B 1 j) (nI j) from Or.inr ⟨w, hw, h, hh⟩) (acyc R hj 32)
  · have e1 : ¬ k_isWithin N K A (nI j) (nI w) = (0 : Int32) := by
      rw [k_isWithin, eH_j R hj, h, k_isWithin_9_S, if_neg hw1, if_pos rfl]; decide
    have etp : k_turningPoint N K A (nI w) (nI j) = nI w := by
      rw [k_turningPoint, k_turningPoint_5_S, if_neg hw1, if_neg hwj, if_neg e1]
    rw [k_firstBarrier, etp, if_neg hw1, k_firstBarrierOut, k_firstBarrierOut_5_S, if_pos rfl, if_pos rfl, k_firstBarrierIn, if_neg hwj, eH_j R hj, h, k_firstBarrierIn_19_S, if_pos rfl]
theorem p_take (R : Rel N K A B) (who x : Int32) : RW N K (k_take N K A who x) (m_take N K B Q who x) := by
  have hN := R.hN
  rw [k_take, m_take]
  by_cases c1 : k_isPerson N K A who = (0 : Int32)
  · rw [if_pos c1, if_pos ((eP_0 R who).mpr c1)]; exact ⟨rfl, R⟩
  · rw [if_neg c1, if_neg (fun q => c1 ((eP_0 R who).mp q)), eT R]
    obtain ⟨w, hw, rfl⟩ := isThing_j hN (sortOf_k (isPerson_s c1) (by decide))
    have hp : B 0 w = (3 : Int32) := by rw [← eS_j R hw]; exact isPerson_s c1
    by_cases c2 : k_isThing N K A x = (0 : Int32)
    · rw [if_pos c2, if_pos c2]; exact ⟨rfl, R⟩
    · rw [if_neg c2, if_neg c2]
      obtain ⟨j, hj, rfl⟩ := isThing_j hN c2
      rw [eS_j R hj, nI_clamp (n := j) (by omega), R.ho hj]
      by_cases c3 : B 0 j = (0 : Int32)
      · rw [if_pos c3, if_pos c3]; exact ⟨rfl, R⟩
      · rw [if_neg c3, if_neg c3]
        by_cases c4 : B 0 j = (3 : Int32)
        · rw [if_pos c4, if_neg (fun q => (ePe R hj).mp q c4)]; exact ⟨rfl, R⟩
        · rw [if_neg c4, if_pos ((ePe R hj).mpr c4)]
          have hne : w ≠ j := fun e => c4 (by rw [← e]; exact hp)
          by_cases c5 : B 1 j = nI w
          · obtain ⟨f1, f2⟩ := fb_own R hw hj hne c5
            rw [if_pos c5, if_pos f1, if_neg (by rw [f2]; decide), if_pos f2, if_pos c5]; exact ⟨rfl, R⟩
          · rw [if_neg c5, if_neg c5, eW (Q := Q) R (nI_m1 hN hj) hw]
            by_cases c6 : m_isWithin N K B Q (nI w) (nI j) = (0 : Int32)
            · rw [if_pos c6, if_pos c6]
              rcases y_main (Q := Q) R hw hj hp with ⟨g1, g2⟩ | ⟨g1, g2, g3⟩
              · rw [if_pos g1, if_pos g2]; exact ⟨rfl, R⟩
              · rw [if_neg g1, if_neg (show ¬ (m_findWay N K B Q (nI w) (nI j)).1 = (0 : Int32) by rw [g2]; decide), g3]
                by_cases c7 : m_firstBarrier N K B (m_findWay N K B Q (nI w) (nI j)).2 = (-1 : Int32)
                · rw [if_pos c7, if_pos c7]
                  by_cases c8 : m_hasRoom N K B (m_findWay N K B Q (nI w) (nI j)).2 (nI w) = (0 : Int32)
                  · rw [if_pos c8, if_neg (fun q => (eFu R hw).mp q c8)]; exact ⟨rfl, R⟩
                  · rw [if_neg c8, if_pos ((eFu R hw).mpr c8)]
                    exact ⟨rfl, Rel_ho R hj c3 (Or.inr ⟨w, hw, rfl, hit_w R hw hj hne c6⟩)⟩
                · rw [if_neg c7, if_neg c7]; exact ⟨rfl, R⟩
            · rw [if_neg c6, if_neg c6]; exact ⟨rfl, R⟩
theorem given_0 (R : Rel N K A B) {j : Nat} (hj : j < N) : k_mayBeGivenTo N K A (nI j) = (0 : Int32) ↔ m_in (B 0 j) (1 : Int32) (3 : Int32) = (0 : Int32) := by
  obtain ⟨s, hs, e⟩ := R.so hj
  rw [k_mayBeGivenTo, eS_j R hj, e]
  rcases (show s = 0 ∨ s = 1 ∨ s = 2 ∨ s = 3 ∨ s = 4 by omega) with q | q | q | q | q <;> subst q <;> decide
theorem given_no {x : Int32} (h : k_isThing N K A x = (0 : Int32)) : k_mayBeGivenTo N K A x = (0 : Int32) := by
  rw [k_mayBeGivenTo, eS_no h]; decide
theorem p_give (R : Rel N K A B) (who x t : Int32) : RW N K (k_give N K A who x t) (m_give N K B Q who x t) := by
  have hN := R.hN
  rw [k_give, m_give, k_hasInHands]
  by_cases c1 : k_isPerson N K A who = (0 : Int32)
  · rw [if_pos c1, if_pos rfl, if_pos ((eP_0 R who).mpr c1)]; exact ⟨rfl, R⟩
  · rw [if_neg c1, if_neg (fun q => c1 ((eP_0 R who).mp q)), eT R, eT R]
    obtain ⟨w, hw, rfl⟩ := isThing_j hN (sortOf_k (isPerson_s c1) (by decide))
    have hp : B 0 w = (3 : Int32) := by rw [← eS_j R hw]; exact isPerson_s c1
    by_cases c2 : k_isThing N K A x = (0 : Int32)
    · rw [if_pos c2, if_pos rfl, if_pos c2]; exact ⟨rfl, R⟩
    · rw [if_neg c2, if_neg c2]
      obtain ⟨j, hj, rfl⟩ := isThing_j hN c2
      rw [eH_j R hj, nI_clamp (n := j) (by omega)]
      by_cases c3 : B 1 j = nI w
      · rw [if_pos c3, if_neg (show ¬ (1 : Int32) = (0 : Int32) by decide), if_pos c3]
        have hj0 : ¬ B 0 j = (0 : Int32) := fun h0 => nI_m1 hN hw (c3.symm.trans (R.rm hj h0))
        by_cases c4 : k_isThing N K A t = (0 : Int32)
        · rw [if_pos c4, if_pos (given_no c4)]
          by_cases c5 : t = nI w
          · rw [if_pos c5]; exact ⟨rfl, R⟩
          · rw [if_neg c5]; exact ⟨rfl, R⟩
        · rw [if_neg c4]
          obtain ⟨h, hh, rfl⟩ := isThing_j hN c4
          rw [nI_clamp (n := h) (by omega)]
          by_cases c5 : nI h = nI w
          · rw [if_pos c5, if_pos c5]
            by_cases c6 : m_in (B 0 h) (1 : Int32) (3 : Int32) = (0 : Int32)
            · rw [if_pos c6]; exact ⟨rfl, R⟩
            · rw [if_neg c6]; exact ⟨rfl, R⟩
          · rw [if_neg c5, if_neg c5]
            by_cases c6 : m_in (B 0 h) (1 : Int32) (3 : Int32) = (0 : Int32)
            · rw [if_pos c6, if_pos ((given_0 R hh).mpr c6)]; exact ⟨rfl, R⟩
            · rw [if_neg c6, if_neg (fun q => c6 ((given_0 R hh).mp q))]
              by_cases c7 : nI h = nI j
              · rw [if_pos c7, if_pos c7]; exact ⟨rfl, R⟩
              · rw [if_neg c7, if_neg c7, eW (Q := Q) R (nI_m1 hN hj) hh]
                by_cases c8 : m_isWithin N K B Q (nI h) (nI j) = (0 : Int32)
                · rw [if_pos c8, if_pos c8]
                  rcases y_main (Q := Q) R hw hh hp with ⟨g1, g2⟩ | ⟨g1, g2, g3⟩
                  · rw [if_pos g1, if_pos g2]; exact ⟨rfl, R⟩
                  · rw [if_neg g1, if_neg (show ¬ (m_findWay N K B Q (nI w) (nI h)).1 = (0 : Int32) by rw [g2]; decide), g3, eSh (Q := (m_findWay N K B Q (nI w) (nI h)).2) R hh]
                    by_cases d1 : m_firstBarrier N K B (m_findWay N K B Q (nI w) (nI h)).2 = (-1 : Int32)
                    · rw [if_pos d1, if_pos d1]
                      by_cases d2 : m_isShut N K B (m_findWay N K B Q (nI w) (nI h)).2 (nI h) = (0 : Int32)
                      · rw [if_pos d2, if_pos d2]
                        by_cases d3 : m_hasRoom N K B (m_findWay N K B Q (nI w) (nI h)).2 (nI h) = (0 : Int32)
                        · rw [if_pos d3, if_neg (fun q => (eFu R hh).mp q d3)]; exact ⟨rfl, R⟩
                        · rw [if_neg d3, if_pos ((eFu R hh).mpr d3)]
                          exact ⟨rfl, Rel_ho R hj hj0 (Or.inr ⟨h, hh, rfl, hit_w R hh hj (fun e => c7 (by rw [e])) c8⟩)⟩
                      · rw [if_neg d2, if_neg d2]; exact ⟨rfl, R⟩
                    · rw [if_neg d1, if_neg d1]; exact ⟨rfl, R⟩
                · rw [if_neg c8, if_neg c8]; exact ⟨rfl, R⟩
      · rw [if_neg c3, if_pos rfl, if_neg c3]
        by_cases c4 : k_isThing N K A t = (0 : Int32)
        · rw [if_pos c4]; exact ⟨rfl, R⟩
        · rw [if_neg c4]; exact ⟨rfl, R⟩
theorem p_barrier (R : Rel N K A B) (who x : Int32) : k_barrier N K A who x = (m_barrier N K B Q who x).1 := by
  have hN := R.hN
  rw [k_barrier, m_barrier]
  by_cases c1 : k_isPerson N K A who = (0 : Int32)
  · rw [if_pos c1, if_pos ((eP_0 R who).mpr c1)]
  · rw [if_neg c1, if_neg (fun q => c1 ((eP_0 R who).mp q)), eT R]
    obtain ⟨w, hw, rfl⟩ := isThing_j hN (sortOf_k (isPerson_s c1) (by decide))
    have hp : B 0 w = (3 : Int32) := by rw [← eS_j R hw]; exact isPerson_s c1
    by_cases c2 : k_isThing N K A x = (0 : Int32)
    · rw [if_pos c2, if_pos c2]
    · rw [if_neg c2, if_neg c2]
      obtain ⟨j, hj, rfl⟩ := isThing_j hN c2
      by_cases c3 : nI w = nI j
      · rw [if_pos c3, if_pos c3]
      · rw [if_neg c3, if_neg c3]
        rcases y_main (Q := Q) R hw hj hp with ⟨g1, g2⟩ | ⟨g1, g2, g3⟩
        · rw [if_pos g2, g1]
        · rw [if_neg (by rw [g2]; decide), g3]
end TK
