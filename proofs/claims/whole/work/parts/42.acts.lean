/-! The relation is kept; the answers are alike: thing, clear, put, set, door, turn, drop, go, count, told, held. -/
def RW (N K : Nat) (p : Int32 × (Nat → Nat → Int32)) (q : Int32 × (Nat → Nat → Int32) × (Nat → Nat → Int32)) : Prop := p.1 = q.1 ∧ Rel N K p.2 q.2.1
def RS (p : Int32 × Nat × Nat × (Nat → Nat → Int32)) (q : Int32 × Nat × Nat × (Nat → Nat → Int32) × (Nat → Nat → Int32)) : Prop := p.1 = q.1 ∧ p.2.1 = q.2.1 ∧ p.2.2.1 = q.2.2.1 ∧ Rel p.2.1 p.2.2.1 p.2.2.2 q.2.2.2.1
section AC
variable {N K : Nat} {A B Q : Nat → Nat → Int32}
theorem Rel_ev {A' : Nat → Nat → Int32} (R : Rel N K A B) (h : eqv A A') : Rel N K A' B := by
  refine ⟨R.1, ⟨fun j hj => ?_, fun j hj => ?_, fun j m hj hm => ?_, fun d hd => ?_⟩, R.2.2⟩
  · rw [h 0 (by decide)]; exact R.sr hj
  · rw [h 1 (by decide)]; exact R.ho hj
  · rw [h (2 + m) (by omega)]; exact R.mk hj hm
  · rw [h 6 (by decide), h 7 (by decide), h 8 (by decide), h 9 (by decide)]; exact R.dr hd
theorem Rel_ho (R : Rel N K A B) {x : Nat} (hx : x < N) (hx0 : ¬ B 0 x = (0 : Int32)) {w : Int32} (hw : w = (-1 : Int32) ∨ ∃ j : Nat, j < N ∧ w = nI j ∧ ∀ n, ¬ hit N (B 1) n w (nI x)) : Rel N K (sU A 1 x w) (sU B 1 x w) := by
  refine ⟨R.1, ⟨fun j hj => ?_, fun j hj => ?_, fun j m hj hm => ?_, fun d hd => ?_⟩, fun j hj => ?_, chs_upd R.hN R.hC hx hw, fun j m hj hm => ?_, fun d hd => ?_⟩
  · rw [sU_ne _ _ _ (by decide), sU_ne _ _ _ (by decide)]; exact R.sr hj
  · rw [sU_same, sU_same]
    by_cases e : j = x
    · subst e; rw [pk_us, pk_us]
    · rw [pk_un e, pk_un e]; exact R.ho hj
  · rw [sU_ne _ _ _ (by omega), sU_ne _ _ _ (by decide)]; exact R.mk hj hm
  · rw [sU_ne _ _ _ (by decide), sU_ne _ _ _ (by decide), sU_ne _ _ _ (by decide), sU_ne _ _ _ (by decide), sU_ne _ _ _ (by decide), sU_ne _ _ _ (by decide), sU_ne _ _ _ (by decide), sU_ne _ _ _ (by decide)]; exact R.dr hd
  · rw [sU_ne (k' := 0) _ _ _ (by decide), sU_same]
    refine ⟨R.so hj, fun h0 => ?_⟩
    by_cases e : j = x
    · subst e; exact absurd h0 hx0
    · rw [pk_un e]; exact R.rm hj h0
  · rw [sU_ne _ _ _ (by decide)]; exact R.mv hj hm
  · rw [sU_ne _ _ _ (by decide), sU_ne _ _ _ (by decide), sU_ne _ _ _ (by decide)]; exact R.de hd
theorem Rel_mark (R : Rel N K A B) {x m v : Nat} (hx : x < N) (hm : m < 4) (hv : v ≤ 9) : Rel N K (sU A (2 + m) x (nI v)) (sU B 2 (4 * x + m) (nI v)) := by
  refine ⟨R.1, ⟨fun j hj => ?_, fun j hj => ?_, fun j n hj hn => ?_, fun d hd => ?_⟩, fun j hj => ?_, fun j hj => ?_, fun j n hj hn => ?_, fun d hd => ?_⟩
  · rw [sU_ne _ _ _ (by omega), sU_ne _ _ _ (by decide)]; exact R.sr hj
  · rw [sU_ne _ _ _ (by omega), sU_ne _ _ _ (by decide)]; exact R.ho hj
  · rw [sU_same (k := 2)]
    by_cases e : n = m
    · subst e
      rw [sU_same]
      by_cases e : j = x
      · subst e; rw [pk_us, pk_us]
      · rw [pk_un e, pk_un (show 4 * j + n ≠ 4 * x + n by omega)]; exact R.mk hj hn
    · rw [sU_ne _ _ _ (by omega), pk_un (show 4 * j + n ≠ 4 * x + m by omega)]; exact R.mk hj hn
  · rw [sU_ne _ _ _ (by omega), sU_ne _ _ _ (by omega), sU_ne _ _ _ (by omega), sU_ne _ _ _ (by omega), sU_ne _ _ _ (by omega), sU_ne _ _ _ (by omega), sU_ne _ _ _ (by omega), sU_ne _ _ _ (by omega)]; exact R.dr hd
  · rw [sU_ne _ _ _ (by decide), sU_ne _ _ _ (by decide)]; exact ⟨R.so hj, R.rm hj⟩
  · rw [sU_ne _ _ _ (by decide)]; exact R.hC j hj
  · rw [sU_same]
    by_cases e : 4 * j + n = 4 * x + m
    · rw [e, pk_us]; exact ⟨v, hv, rfl⟩
    · rw [pk_un e]; exact R.mv hj hn
  · rw [sU_ne _ _ _ (by decide), sU_ne _ _ _ (by decide), sU_ne _ _ _ (by decide)]; exact R.de hd
theorem hit_w (R : Rel N K A B) {h j : Nat} (hh : h < N) (hj : j < N) (hne : h ≠ j) (hw : m_isWithin N K B Q (nI h) (nI j) = (0 : Int32)) : ∀ n, ¬ hit N (B 1) n (nI h) (nI j) := by
  have hN := R.hN
  intro n hn
  cases n with
  | zero => exact hn
  | succ n =>
    rcases hn with e | ⟨i, h1, h2, h3⟩
    · exact hne ((nI_eq (by omega) (by omega)).mp e)
    · obtain rfl : h = i := (nI_eq (by omega) (by omega)).mp h2
      rw [m_isWithin, nI_clamp (by omega)] at hw
      exact hit_not hN 30 _ (R.hC h hh) (nI_m1 hN hj) hw n h3
theorem ch_hit {f : Nat → Int32} {t : Int32} (hN : N ≤ 30) : ∀ (n k : Nat) (v : Int32), ch N f k v → hit N f n v t → ∃ i, i ≤ k ∧ ch N f i t := by
  intro n
  induction n with
  | zero => intro k v _ h; exact absurd h hit_0
  | succ n ih =>
    intro k v hk h
    rcases h with h | ⟨j, h1, h2, h3⟩
    · exact ⟨k, Nat.le_refl _, h ▸ hk⟩
    · cases k with
      | zero => exact absurd (h2.symm.trans hk) (nI_m1 hN h1)
      | succ k =>
        rcases hk with hk | ⟨i, g1, g2, g3⟩
        · exact absurd (h2.symm.trans hk) (nI_m1 hN h1)
        · obtain rfl : j = i := (nI_eq (by omega) (by omega)).mp (h2.symm.trans g2)
          obtain ⟨m, hm, h4⟩ := ih k _ g3 h3
          exact ⟨m, by omega, h4⟩
/-- no thing is within itself -/
theorem acyc (R : Rel N K A B) {j : Nat} (hj : j < N) : ∀ n, ¬ hit N (B 1) n (B 1 j) (nI j) := by
  have hN := R.hN
  intro n hn
  have main : ∀ (m k : Nat), k ≤ m → ch N (B 1) k (nI j) → False := by
    intro m
    induction m with
    | zero =>
      intro k hk h
      obtain rfl : k = 0 := by omega
      exact nI_m1 hN hj h
    | succ m ih =>
      intro k hk h
      cases k with
      | zero => exact nI_m1 hN hj h
      | succ k =>
        rcases h with h | ⟨i, h1, h2, h3⟩
        · exact nI_m1 hN hj h
        · obtain rfl : j = i := (nI_eq (by omega) (by omega)).mp h2
          obtain ⟨i, hi, h4⟩ := ch_hit hN n k _ h3 hn
          exact ih i (by omega) h4
  exact main 30 30 (Nat.le_refl _) (Or.inr ⟨j, hj, rfl, (R.hC j hj).2⟩)
theorem p_put (R : Rel N K A B) (x hd : Int32) : RW N K (k_put N K A x hd) (m_put N K B Q x hd) := by
  have hN := R.hN
  rw [k_put, m_put, eT R]
  by_cases c1 : k_isThing N K A x = (0 : Int32)
  · rw [if_pos c1, if_pos c1]; exact ⟨rfl, R⟩
  · rw [if_neg c1, if_neg c1]
    obtain ⟨j, hj, rfl⟩ := isThing_j hN c1
    rw [eS_j R hj, nI_clamp (n := j) (by omega)]
    by_cases c2 : B 0 j = (0 : Int32)
    · rw [if_pos c2, if_pos c2]; exact ⟨rfl, R⟩
    · rw [if_neg c2, if_neg c2]
      by_cases c3 : hd = (-1 : Int32)
      · rw [if_pos c3, if_pos c3, if_neg (show ¬ hd = nI j from fun q => nI_m1 hN hj (q.symm.trans c3)), c3]
        exact ⟨R.ho hj, Rel_ho R hj c2 (Or.inl rfl)⟩
      · rw [if_neg c3, if_neg c3, eT R]
        by_cases c4 : k_isThing N K A hd = (0 : Int32)
        · rw [if_pos c4, if_pos c4]; exact ⟨rfl, R⟩
        · rw [if_neg c4, if_neg c4]
          obtain ⟨h, hh, rfl⟩ := isThing_j hN c4
          rw [eS_j R hh, nI_clamp (n := h) (by omega)]
          by_cases c5 : B 0 h = (4 : Int32)
          · rw [if_pos c5, if_pos c5]; exact ⟨rfl, R⟩
          · rw [if_neg c5, if_neg c5]
            by_cases c6 : nI h = nI j
            · rw [if_pos c6, if_pos c6]; exact ⟨rfl, R⟩
            · rw [if_neg c6, if_neg c6, eW (Q := Q) R (nI_m1 hN hj) hh]
              by_cases c7 : m_isWithin N K B Q (nI h) (nI j) = (0 : Int32)
              · have key : Rel N K (sU A 1 j (nI h)) (sU B 1 j (nI h)) := Rel_ho R hj c2 (Or.inr ⟨h, hh, rfl, hit_w R hh hj (fun e => c6 (by rw [e])) c7⟩)
                rw [if_pos c7, if_pos c7, R.ho hj]
                by_cases c8 : B 1 j = nI h
                · rw [if_pos c8.symm, if_pos c8]; exact ⟨rfl, key⟩
                · rw [if_neg (fun q => c8 q.symm), if_neg c8]
                  by_cases c9 : m_hasRoom N K B Q (nI h) = (0 : Int32)
                  · rw [if_pos c9, if_neg (fun q => (eFu (Q := Q) R hh).mp q c9)]; exact ⟨rfl, R⟩
                  · rw [if_neg c9, if_pos ((eFu (Q := Q) R hh).mpr c9)]; exact ⟨rfl, key⟩
              · rw [if_neg c7, if_neg c7]; exact ⟨rfl, R⟩
theorem inM_0 {x lo hi : Int32} : m_in x lo hi = (0 : Int32) ↔ x < lo ∨ hi < x := by
  rw [m_in]
  by_cases c1 : x < lo
  · rw [if_pos c1]; exact ⟨fun _ => Or.inl c1, fun _ => rfl⟩
  · rw [if_neg c1]
    by_cases c2 : hi < x
    · rw [if_pos c2]; exact ⟨fun _ => Or.inr c2, fun _ => rfl⟩
    · rw [if_neg c2]; exact ⟨fun q => absurd q (by decide), fun q => q.elim (fun q => absurd q c1) (fun q => absurd q c2)⟩
/-- the end of set and turn: the value in its bounds -/
theorem p_setv (R : Rel N K A B) {j m : Nat} (hj : j < N) (hm : m < 4) {v M : Int32} {M' : Nat} (hM : M.toInt = M') (hM9 : M' ≤ 9) :
    RW N K (if v < (0 : Int32) then ((-3 : Int32), A) else (if v ≤ M then (A (2 + m) j, sU A (2 + m) j v) else ((-3 : Int32), A))) (if m_in v (0 : Int32) M = (0 : Int32) then ((-3 : Int32), (B, Q)) else (B 2 (4 * j + m), (sU B 2 (4 * j + m) v, Q))) := by
  by_cases c1 : v < (0 : Int32)
  · rw [if_pos c1, if_pos (inM_0.mpr (Or.inl c1))]; exact ⟨rfl, R⟩
  · rw [if_neg c1]
    by_cases c2 : v ≤ M
    · obtain ⟨n, hn, rfl⟩ := nI_of2 hM c1 c2
      rw [if_pos c2, if_neg (fun q => (inM_0.mp q).elim (fun q => c1 q) (fun q => absurd c2 (Int32.not_le.mpr q)))]
      exact ⟨R.mk hj hm, Rel_mark R hj hm (by omega)⟩
    · rw [if_neg c2, if_pos (inM_0.mpr (Or.inr (Int32.not_le.mp c2)))]; exact ⟨rfl, R⟩
theorem p_set (R : Rel N K A B) (x what v : Int32) : RW N K (k_set N K A x what v) (m_set N K B Q x what v) := by
  have hN := R.hN
  rw [k_set, m_set, eT R]
  by_cases c1 : k_isThing N K A x = (0 : Int32)
  · rw [if_pos c1, if_pos c1]; exact ⟨rfl, R⟩
  · rw [if_neg c1, if_neg c1]
    obtain ⟨j, hj, rfl⟩ := isThing_j hN c1
    rw [eS_j R hj, nI_clamp (n := j) (by omega)]
    have ix : ∀ m : Nat, m < 4 → (((4 : Int32) * nI j) + nI m).toNatClampNeg = 4 * j + m := fun m hm => by
      rw [show (4 : Int32) = nI 4 from rfl, pk_mul, nI_add, nI_clamp (by omega)]
    by_cases w0 : what = (0 : Int32)
    · subst w0
      rw [if_pos rfl, if_neg (show ¬ m_in (0 : Int32) (0 : Int32) (1 : Int32) = (0 : Int32) by decide)]
      by_cases c2 : B 0 j = (1 : Int32)
      · rw [if_pos c2, if_pos c2, if_neg (show ¬ (0 : Int32) < (0 : Int32) by decide), if_neg (show ¬ (4 : Int32) ≤ (0 : Int32) by decide), if_neg (show ¬ m_in (0 : Int32) (0 : Int32) (3 : Int32) = (0 : Int32) by decide), if_neg (show ¬ (2 : Int32) ≤ (0 : Int32) by decide)]
        have e := ix 0 (by omega)
        rw [show nI 0 = (0 : Int32) from rfl] at e
        rw [e, show (0 : Int32).toNatClampNeg = 0 from by decide]
        exact p_setv R hj (by omega) (M' := 1) (by decide) (by omega)
      · rw [if_neg c2, if_neg c2]; exact ⟨rfl, R⟩
    · rw [if_neg w0]
      by_cases w1 : what = (1 : Int32)
      · subst w1
        rw [if_pos rfl, if_neg (show ¬ m_in (1 : Int32) (0 : Int32) (1 : Int32) = (0 : Int32) by decide)]
        by_cases c2 : B 0 j = (1 : Int32)
        · rw [if_pos c2, if_pos c2, if_neg (show ¬ (1 : Int32) < (0 : Int32) by decide), if_neg (show ¬ (4 : Int32) ≤ (1 : Int32) by decide), if_neg (show ¬ m_in (1 : Int32) (0 : Int32) (3 : Int32) = (0 : Int32) by decide), if_neg (show ¬ (2 : Int32) ≤ (1 : Int32) by decide)]
          have e := ix 1 (by omega)
          rw [show nI 1 = (1 : Int32) from rfl] at e
          rw [e, show (1 : Int32).toNatClampNeg = 1 from by decide]
          exact p_setv R hj (by omega) (M' := 1) (by decide) (by omega)
        · rw [if_neg c2, if_neg c2]; exact ⟨rfl, R⟩
      · rw [if_neg w1]
        by_cases n0 : what < (0 : Int32)
        · rw [if_pos n0, if_pos (inM_0.mpr (Or.inl n0)), if_pos (inM_0.mpr (Or.inl n0))]; exact ⟨rfl, R⟩
        · rw [if_neg n0]
          by_cases n4 : (4 : Int32) ≤ what
          · have h3 : (3 : Int32) < what := Int32.lt_of_lt_of_le (by decide) n4
            have h1 : (1 : Int32) < what := Int32.lt_of_lt_of_le (by decide) n4
            rw [if_pos n4, if_pos (inM_0.mpr (Or.inr h1)), if_pos (inM_0.mpr (Or.inr h3))]; exact ⟨rfl, R⟩
          · obtain ⟨m, hm, rfl, -⟩ := pk_mu (L := 4) n0 n4 (by omega)
            have hm2 : 2 ≤ m := by
              rcases (show m = 0 ∨ m = 1 ∨ 2 ≤ m by omega) with e | e | e
              · subst e; exact absurd rfl w0
              · subst e; exact absurd rfl w1
              · exact e
            have h1 : m_in (nI m) (0 : Int32) (1 : Int32) = (0 : Int32) := inM_0.mpr (Or.inr (nI_lt (a := 1) (by omega) (by omega)))
            have h3 : ¬ m_in (nI m) (0 : Int32) (3 : Int32) = (0 : Int32) := fun q => (inM_0.mp q).elim (fun q => n0 q) (fun q => nI_nlt (a := 3) (b := m) (by omega) (by omega) q)
            rw [if_neg n4, if_pos h1, if_neg h3, if_pos (show (2 : Int32) ≤ nI m from nI_le (a := 2) hm2 (by omega)), ix m hm, nI_clamp (n := m) (by omega)]
            exact p_setv R hj hm (M' := 9) (by decide) (by omega)
theorem p_count (what : Int32) : k_count N K A what = m_count N K B Q what := rfl
theorem Rel_0 : Rel 0 0 A B := ⟨⟨by omega, by omega⟩, ⟨fun j hj => by omega, fun j hj => by omega, fun j m hj => by omega, fun d hd => by omega⟩, fun j hj => by omega, fun j hj => by omega, fun j m hj => by omega, fun d hd => by omega⟩
theorem p_clear : RS (k_clear N K A) (m_clear N K B Q) := ⟨rfl, rfl, rfl, Rel_0⟩
theorem p_drop (R : Rel N K A B) (who x : Int32) : RW N K (k_drop N K A who x) (m_drop N K B Q who x) := by
  have hN := R.hN
  rw [k_drop, m_drop, k_hasInHands]
  by_cases c1 : k_isPerson N K A who = (0 : Int32)
  · rw [if_pos c1, if_pos rfl, if_pos ((eP_0 R who).mpr c1)]; exact ⟨rfl, R⟩
  · rw [if_neg c1, if_neg (fun q => c1 ((eP_0 R who).mp q)), eT R]
    obtain ⟨w, hw, rfl⟩ := isThing_j hN (sortOf_k (isPerson_s c1) (by decide))
    by_cases c2 : k_isThing N K A x = (0 : Int32)
    · rw [if_pos c2, if_pos rfl, if_pos c2]; exact ⟨rfl, R⟩
    · rw [if_neg c2, if_neg c2]
      obtain ⟨j, hj, rfl⟩ := isThing_j hN c2
      rw [eH_j R hj, eH_j R hw, nI_clamp (n := j) (by omega), nI_clamp (n := w) (by omega)]
      by_cases c3 : B 1 j = nI w
      · rw [if_pos c3, if_neg (by decide), if_pos c3]
        by_cases c4 : B 1 w = (-1 : Int32)
        · rw [if_pos c4, if_pos c4]; exact ⟨rfl, R⟩
        · rw [if_neg c4, if_neg c4]
          obtain ⟨h, hh, eh, hc⟩ := chp_dec (R.hC w hw) c4
          rw [eh]
          by_cases c5 : m_hasRoom N K B Q (nI h) = (0 : Int32)
          · rw [if_pos c5, if_neg (fun q => (eFu (Q := Q) R hh).mp q c5)]; exact ⟨rfl, R⟩
          · rw [if_neg c5, if_pos ((eFu (Q := Q) R hh).mpr c5)]
            refine ⟨rfl, Rel_ho R hj (fun h0 => nI_m1 hN hw (c3.symm.trans (R.rm hj h0))) (Or.inr ⟨h, hh, rfl, fun n hn => ?_⟩)⟩
            refine acyc R hj (n + 1) ?_
            rw [c3]
            exact Or.inr ⟨w, hw, rfl, by rw [eh]; exact hn⟩
      · rw [if_neg c3, if_pos rfl, if_neg c3]; exact ⟨rfl, R⟩
theorem p_go (R : Rel N K A B) (who dr : Int32) : RW N K (k_go N K A who dr) (m_go N K B Q who dr) := by
  have hN := R.hN
  have hK := R.hK
  rw [k_go, m_go]
  by_cases c1 : k_isPerson N K A who = (0 : Int32)
  · rw [if_pos c1, if_pos ((eP_0 R who).mpr c1)]; exact ⟨rfl, R⟩
  · rw [if_neg c1, if_neg (fun q => c1 ((eP_0 R who).mp q)), eDo R]
    obtain ⟨w, hw, rfl⟩ := isThing_j hN (sortOf_k (isPerson_s c1) (by decide))
    have hp : B 0 w = (3 : Int32) := by rw [← eS_j R hw]; exact isPerson_s c1
    by_cases c2 : k_isDoor N K A dr = (0 : Int32)
    · rw [if_pos c2, if_pos c2]; exact ⟨rfl, R⟩
    · rw [if_neg c2, if_neg c2]
      obtain ⟨d, hd, rfl⟩ := isDoor_j hK c2
      obtain ⟨f, t, hf, ht, ef, et, hne, f0, t0⟩ := R.de hd
      obtain ⟨d1, d2, d3, d4⟩ := R.dr hd
      rw [nI_clamp (n := w) (by omega), nI_clamp (n := d) (by omega), show 8 + (0 : Int32).toNatClampNeg = 8 from by decide, R.ho hw, d1, d2, d3, ef, et]
      have room : ∀ r, r < N → B 0 r = (0 : Int32) → Rel N K (sU A 1 w (nI r)) (sU B 1 w (nI r)) := fun r hr h0 => by
        refine Rel_ho R hw (by rw [hp]; decide) (Or.inr ⟨r, hr, rfl, fun n hn => ?_⟩)
        have hrw : r ≠ w := fun e => by rw [e, hp] at h0; exact absurd h0 (by decide)
        have hm : ∀ n, ¬ hit N (B 1) n (-1 : Int32) (nI w) := fun n hn => by
          cases n with
          | zero => exact hn
          | succ n =>
            rcases hn with e | ⟨i, h1, h2, -⟩
            · exact nI_m1 hN hw e.symm
            · exact nI_m1 hN h1 h2.symm
        cases n with
        | zero => exact hn
        | succ n =>
          rcases hn with e | ⟨i, h1, h2, h3⟩
          · exact hrw ((nI_eq (by omega) (by omega)).mp e)
          · obtain rfl : r = i := (nI_eq (by omega) (by omega)).mp h2
            rw [R.rm hr h0] at h3
            exact hm n h3
      by_cases c4 : B 5 d = (0 : Int32)
      · by_cases c3 : B 1 w = nI f
        · have c6 : ¬ B 1 w = (-1 : Int32) := fun q => nI_m1 hN hf (c3.symm.trans q)
          simp only [if_pos c3, if_neg c6, if_pos c4]; exact ⟨rfl, R⟩
        · by_cases c5 : B 1 w = nI t
          · have c6 : ¬ B 1 w = (-1 : Int32) := fun q => nI_m1 hN ht (c5.symm.trans q)
            simp only [if_neg c3, if_neg c6, if_pos c4, if_pos c5]; exact ⟨rfl, R⟩
          · by_cases c6 : B 1 w = (-1 : Int32)
            · simp only [if_neg c3, if_pos c6, if_neg c5]; exact ⟨rfl, R⟩
            · simp only [if_neg c3, if_neg c6, if_neg c5]; exact ⟨rfl, R⟩
      · by_cases c3 : B 1 w = nI f
        · have c6 : ¬ B 1 w = (-1 : Int32) := fun q => nI_m1 hN hf (c3.symm.trans q)
          simp only [if_pos c3, if_neg c6, if_neg c4]; exact ⟨by rw [sU_same, pk_us], room t ht t0⟩
        · by_cases c5 : B 1 w = nI t
          · have c6 : ¬ B 1 w = (-1 : Int32) := fun q => nI_m1 hN ht (c5.symm.trans q)
            simp only [if_neg c3, if_neg c6, if_neg c4, if_pos c5]; exact ⟨by rw [sU_same, pk_us], room f hf f0⟩
          · by_cases c6 : B 1 w = (-1 : Int32)
            · simp only [if_neg c3, if_pos c6, if_neg c5]; exact ⟨rfl, R⟩
            · simp only [if_neg c3, if_neg c6, if_neg c5]; exact ⟨rfl, R⟩
theorem p_told_4 (R : Rel N K A B) {j : Nat} (hj : j < N) : ∀ (k i : Nat) (v : Int32), i + k = N → k_countWithin_4 N K A (nI j) k i v = m_told_16 N K B Q (nI j) k i v := by
  intro k
  induction k with
  | zero => intro i v _; rfl
  | succ k ih =>
    intro i v hi
    rw [k_countWithin_4_S, m_told_16_S, eW (Q := Q) R (nI_m1 R.hN hj) (show i < N by omega)]
    by_cases c : m_isWithin N K B Q (nI i) (nI j) = (0 : Int32)
    · rw [if_pos c, if_pos c, Int32.add_zero]; exact ih _ _ (by omega)
    · rw [if_neg c, if_neg c]; exact ih _ _ (by omega)
theorem p_told (R : Rel N K A B) (x what : Int32) : k_told N K A x what = m_told N K B Q x what := by
  have hN := R.hN
  rw [k_told, m_told, eT R]
  by_cases c1 : k_isThing N K A x = (0 : Int32)
  · rw [if_pos c1, if_pos c1]
  · rw [if_neg c1, if_neg c1]
    obtain ⟨j, hj, rfl⟩ := isThing_j hN c1
    rw [eS_j R hj, eH_j R hj, eSc (Q := Q) R hj, eHb (Q := Q) R, k_countWithin, p_told_4 (Q := Q) R hj N 0 _ (by omega), nI_clamp (n := j) (by omega), show (0 : Int32) = nI 0 from rfl, show (1 : Int32) = nI 1 from rfl, show (2 : Int32) = nI 2 from rfl, show (3 : Int32) = nI 3 from rfl, eMk_j R hj (by omega), eMk_j R hj (by omega), eMk_j R hj (by omega), eMk_j R hj (by omega)]
    have ix : ∀ m : Nat, m < 4 → ((((4 : Int32) * nI j) + nI (m + 5)) - (5 : Int32)).toNatClampNeg = 4 * j + m := fun m hm => by
      rw [show (4 : Int32) = nI 4 from rfl, pk_mul, nI_add, show (5 : Int32) = nI 5 from rfl, pk_sub (by omega), nI_clamp (by omega)]
      omega
    by_cases w0 : what = nI 0
    · rw [if_pos w0, if_pos w0]
    · rw [if_neg w0, if_neg w0]
      by_cases w1 : what = nI 1
      · rw [if_pos w1, if_pos w1]
      · rw [if_neg w1, if_neg w1]
        by_cases w2 : what = nI 2
        · rw [if_pos w2, if_pos w2]
        · rw [if_neg w2, if_neg w2]
          by_cases w3 : what = nI 3
          · rw [if_pos w3, if_pos w3]
          · rw [if_neg w3, if_neg w3]
            by_cases w4 : what = (4 : Int32)
            · rw [if_pos w4, if_pos w4]
            · rw [if_neg w4, if_neg w4]
              by_cases c5 : m_in what (5 : Int32) (8 : Int32) = nI 0
              · have no : ∀ v : Int32, ¬ m_in v (5 : Int32) (8 : Int32) = (0 : Int32) → ¬ what = v := fun v hv e => hv (e ▸ c5)
                rw [if_pos c5, if_neg (no 5 (by decide)), if_neg (no 6 (by decide)), if_neg (no 7 (by decide)), if_neg (no 8 (by decide))]
              · rw [if_neg c5]
                obtain ⟨k, h5, h8, rfl⟩ := in58 c5
                rcases (show k = 5 ∨ k = 6 ∨ k = 7 ∨ k = 8 by omega) with e | e | e | e
                · subst e; rw [if_pos (show nI 5 = (5 : Int32) from rfl), ix 0 (by omega)]
                · subst e; rw [if_neg (show ¬ nI 6 = (5 : Int32) by decide), if_pos (show nI 6 = (6 : Int32) from rfl), ix 1 (by omega)]
                · subst e; rw [if_neg (show ¬ nI 7 = (5 : Int32) by decide), if_neg (show ¬ nI 7 = (6 : Int32) by decide), if_pos (show nI 7 = (7 : Int32) from rfl), ix 2 (by omega)]
                · subst e; rw [if_neg (show ¬ nI 8 = (5 : Int32) by decide), if_neg (show ¬ nI 8 = (6 : Int32) by decide), if_neg (show ¬ nI 8 = (7 : Int32) by decide), if_pos (show nI 8 = (8 : Int32) from rfl), ix 3 (by omega)]
theorem p_held_16 (R : Rel N K A B) (y ix : Int32) (hx : ¬ ix < (0 : Int32)) : ∀ (k i : Nat) (v l : Int32), i + k = N → v + l = ix → k_held_16 N K A y ix k i v = m_held_16 N K B Q y ix k i l := by
  intro k
  induction k with
  | zero => intro i v l _ _; rfl
  | succ k ih =>
    intro i v l hi hv
    have hN := R.hN
    rw [k_held_16_S, m_held_16_S, nI_clamp (by omega), R.ho (show i < N by omega), if_neg hx]
    by_cases c : B 1 i = y
    · rw [if_pos c, if_pos c]
      by_cases c2 : l = (0 : Int32)
      · rw [if_pos c2, if_pos (show v = ix by rw [← hv, c2, Int32.add_zero])]
      · rw [if_neg c2, if_neg (show ¬ v = ix from fun q => c2 (by rw [q] at hv; exact Int32.add_eq_left.mp hv))]
        exact ih _ _ _ (by omega) (by rw [← hv, Int32.add_assoc, show (1 : Int32) + (l + (-1 : Int32)) = l from by rw [Int32.add_comm l, ← Int32.add_assoc, show (1 : Int32) + (-1 : Int32) = 0 from by decide, Int32.zero_add]])
    · rw [if_neg c, if_neg c]; exact ih _ _ _ (by omega) hv
theorem k_held_neg (y ix : Int32) (hx : ix < (0 : Int32)) (hN : N ≤ 30) : ∀ (k i n : Nat), i + k = N → n ≤ i → k_held_16 N K A y ix k i (nI n) = (-1 : Int32) := by
  intro k
  induction k with
  | zero => intro i n _ _; rfl
  | succ k ih =>
    intro i n hi hn
    rw [k_held_16_S]
    by_cases c : A 1 (nI i).toNatClampNeg = y
    · rw [if_pos c, if_neg (show ¬ nI n = ix from fun q => nI_pos (n := n) (by omega) (q ▸ hx)), nI_1]
      exact ih _ _ (by omega) (by omega)
    · rw [if_neg c]; exact ih _ _ (by omega) (by omega)
theorem p_held (R : Rel N K A B) (x ix : Int32) : k_held N K A x ix = m_held N K B Q x ix := by
  rw [k_held, m_held, eT R]
  by_cases c1 : k_isThing N K A x = (0 : Int32)
  · rw [if_pos c1, if_pos c1]
  · rw [if_neg c1, if_neg c1]
    by_cases c2 : ix < (0 : Int32)
    · rw [show (0 : Int32) = nI 0 from rfl, k_held_neg x ix c2 R.hN N 0 0 (by omega) (by omega)]
      have : ∀ (k i : Nat) (v : Int32), m_held_16 N K B Q x ix k i v = (-1 : Int32) := by
        intro k i v
        cases k with
        | zero => rfl
        | succ k => rw [m_held_16_S, if_pos c2]
      exact (this _ _ _).symm
    · exact p_held_16 R x ix c2 N 0 _ _ (by omega) (Int32.zero_add ix)
theorem p_turnv (R : Rel N K A B) {d m : Nat} (hd : d < K) (hm : m < 2) (v : Int32) : Rel N K (sU A (8 + m) d v) (if m = 0 then sU B 5 d v else sU B 6 d v) := by
  have fin : ∀ B' : Nat → Nat → Int32, (∀ r, r < 5 → B' r = B r) → (∀ e, e < K → sU A (8 + m) d v 8 e = B' 5 e ∧ sU A (8 + m) d v 9 e = B' 6 e) → Rel N K (sU A (8 + m) d v) B' := by
    intro B' h5 h6
    refine ⟨R.1, ⟨fun j hj => ?_, fun j hj => ?_, fun j n hj hn => ?_, fun e he => ?_⟩, fun j hj => ?_, fun j hj => ?_, fun j n hj hn => ?_, fun e he => ?_⟩
    · rw [sU_ne _ _ _ (by omega), h5 0 (by omega)]; exact R.sr hj
    · rw [sU_ne _ _ _ (by omega), h5 1 (by omega)]; exact R.ho hj
    · rw [sU_ne _ _ _ (by omega), h5 2 (by omega)]; exact R.mk hj hn
    · rw [sU_ne (k' := 6) _ _ _ (by omega), sU_ne (k' := 7) _ _ _ (by omega), h5 3 (by omega), h5 4 (by omega)]
      exact ⟨(R.dr he).1, (R.dr he).2.1, (h6 e he).1, (h6 e he).2⟩
    · rw [h5 0 (by omega), h5 1 (by omega)]; exact ⟨R.so hj, R.rm hj⟩
    · rw [h5 1 (by omega)]; exact R.hC j hj
    · rw [h5 2 (by omega)]; exact R.mv hj hn
    · rw [h5 3 (by omega), h5 4 (by omega), h5 0 (by omega)]; exact R.de he
  rcases (show m = 0 ∨ m = 1 by omega) with e | e
  · subst e
    rw [if_pos rfl]
    refine fin _ (fun r hr => sU_ne _ _ _ (by omega)) (fun e he => ⟨?_, ?_⟩)
    · rw [show 8 + 0 = 8 from rfl, sU_same, sU_same]
      by_cases q : e = d
      · subst q; rw [pk_us, pk_us]
      · rw [pk_un q, pk_un q]; exact (R.dr he).2.2.1
    · rw [show 8 + 0 = 8 from rfl, sU_ne _ _ _ (by decide), sU_ne _ _ _ (by decide)]; exact (R.dr he).2.2.2
  · subst e
    rw [if_neg (by decide)]
    refine fin _ (fun r hr => sU_ne _ _ _ (by omega)) (fun e he => ⟨?_, ?_⟩)
    · rw [show 8 + 1 = 9 from rfl, sU_ne _ _ _ (by decide), sU_ne _ _ _ (by decide)]; exact (R.dr he).2.2.1
    · rw [show 8 + 1 = 9 from rfl, sU_same, sU_same]
      by_cases q : e = d
      · subst q; rw [pk_us, pk_us]
      · rw [pk_un q, pk_un q]; exact (R.dr he).2.2.2
theorem p_turn (R : Rel N K A B) (dr what v : Int32) : RW N K (k_turn N K A dr what v) (m_turn N K B Q dr what v) := by
  have hK := R.hK
  rw [k_turn, m_turn, eDo R]
  by_cases c1 : k_isDoor N K A dr = (0 : Int32)
  · rw [if_pos c1, if_pos c1]; exact ⟨rfl, R⟩
  · rw [if_neg c1, if_neg c1]
    obtain ⟨d, hd, rfl⟩ := isDoor_j hK c1
    rw [nI_clamp (n := d) (by omega)]
    by_cases n0 : what < (0 : Int32)
    · rw [if_pos n0, if_pos (inM_0.mpr (Or.inl n0))]; exact ⟨rfl, R⟩
    · rw [if_neg n0]
      by_cases n2 : (2 : Int32) ≤ what
      · have h1 : (1 : Int32) < what := Int32.lt_of_lt_of_le (by decide) n2
        rw [if_pos n2, if_pos (inM_0.mpr (Or.inr h1))]; exact ⟨rfl, R⟩
      · obtain ⟨m, hm, rfl, -⟩ := pk_mu (L := 2) n0 n2 (by omega)
        rw [if_neg n2, if_neg (show ¬ m_in (nI m) (0 : Int32) (1 : Int32) = (0 : Int32) from fun q => (inM_0.mp q).elim (fun q => n0 q) (fun q => nI_nlt (a := 1) (b := m) (by omega) (by omega) q)), nI_clamp (n := m) (by omega)]
        by_cases c3 : v < (0 : Int32)
        · rw [if_pos c3, if_pos (inM_0.mpr (Or.inl c3))]; exact ⟨rfl, R⟩
        · rw [if_neg c3]
          by_cases c4 : v ≤ (1 : Int32)
          · have key := p_turnv R hd hm v
            rw [if_pos c4, if_neg (fun q => (inM_0.mp q).elim (fun q => c3 q) (fun q => absurd c4 (Int32.not_le.mpr q)))]
            rcases (show m = 0 ∨ m = 1 by omega) with e | e
            · subst e
              rw [if_pos (show nI 0 = (0 : Int32) from rfl)]
              rw [if_pos rfl] at key
              exact ⟨(R.dr hd).2.2.1, key⟩
            · subst e
              rw [if_neg (show ¬ nI 1 = (0 : Int32) by decide)]
              rw [if_neg (by decide)] at key
              exact ⟨(R.dr hd).2.2.2, key⟩
          · rw [if_neg c4, if_pos (inM_0.mpr (Or.inr (Int32.not_le.mp c4)))]; exact ⟨rfl, R⟩
theorem ch_more {f : Nat → Int32} {w : Int32} : ∀ (k : Nat) (v : Int32), ch N f k v → ch (N + 1) (upd f N w) k v := by
  intro k
  induction k with
  | zero => intro v h; exact h
  | succ k ih =>
    intro v h
    rcases h with h | ⟨j, h1, h2, h3⟩
    · exact Or.inl h
    · exact Or.inr ⟨j, by omega, h2, by rw [pk_un (show j ≠ N by omega)]; exact ih _ h3⟩
theorem Rel_thing (R : Rel N K A B) (hN : N < 30) {A' B' : Nat → Nat → Int32} {s : Nat} (hs : s ≤ 4) (a0 : A' 0 = upd (A 0) N (nI s)) (a1 : A' 1 = upd (A 1) N (-1 : Int32)) (am : ∀ m, m < 4 → A' (2 + m) = upd (A (2 + m)) N (0 : Int32)) (ad : ∀ r, 6 ≤ r → A' r = A r)
    (b0 : B' 0 = upd (B 0) N (nI s)) (b1 : B' 1 = upd (B 1) N (-1 : Int32)) (bm : ∀ m, m < 4 → B' 2 (4 * N + m) = (0 : Int32)) (bo : ∀ i, i < 4 * N → B' 2 i = B 2 i) (bd : ∀ r, 3 ≤ r → B' r = B r) : Rel (N + 1) K A' B' := by
  have sp : ∀ j, j < N + 1 → j = N ∨ j < N := fun j hj => by omega
  refine ⟨⟨by omega, R.hK⟩, ⟨fun j hj => ?_, fun j hj => ?_, fun j m hj hm => ?_, fun d hd => ?_⟩, fun j hj => ?_, fun j hj => ?_, fun j m hj hm => ?_, fun d hd => ?_⟩
  · rw [a0, b0]
    rcases sp j hj with e | h
    · subst e; rw [pk_us, pk_us]
    · rw [pk_un (by omega), pk_un (by omega)]; exact R.sr h
  · rw [a1, b1]
    rcases sp j hj with e | h
    · subst e; rw [pk_us, pk_us]
    · rw [pk_un (by omega), pk_un (by omega)]; exact R.ho h
  · rw [am m hm]
    rcases sp j hj with e | h
    · subst e; rw [pk_us, bm m hm]
    · rw [pk_un (by omega), bo _ (by omega)]; exact R.mk h hm
  · rw [ad 6 (by omega), ad 7 (by omega), ad 8 (by omega), ad 9 (by omega), bd 3 (by omega), bd 4 (by omega), bd 5 (by omega), bd 6 (by omega)]; exact R.dr hd
  · rw [b0, b1]
    rcases sp j hj with e | h
    · subst e; rw [pk_us, pk_us]; exact ⟨⟨s, hs, rfl⟩, fun _ => rfl⟩
    · rw [pk_un (by omega), pk_un (by omega)]; exact ⟨R.so h, R.rm h⟩
  · rw [b1]
    refine ⟨by omega, ?_⟩
    rcases sp j hj with e | h
    · subst e; rw [pk_us]; exact Or.inl rfl
    · rw [pk_un (by omega)]; exact ch_more 29 _ (R.hC j h).2
  · rcases sp j hj with e | h
    · subst e; rw [bm m hm]; exact ⟨0, by omega, rfl⟩
    · rw [bo _ (by omega)]; exact R.mv h hm
  · obtain ⟨f, t, hf, ht, ef, et, hne, f0, t0⟩ := R.de hd
    rw [bd 3 (by omega), bd 4 (by omega), b0]
    exact ⟨f, t, by omega, by omega, ef, et, hne, by rw [pk_un (by omega)]; exact f0, by rw [pk_un (by omega)]; exact t0⟩
theorem k_thing_4 (hN : N < 30) (A1 : Nat → Nat → Int32) : k_thing_55 (N + 1) K (nI N) 4 0 A1 = (nI N, N + 1, K, sU (sU (sU (sU A1 2 N (0 : Int32)) 3 N (0 : Int32)) 4 N (0 : Int32)) 5 N (0 : Int32)) := by
  rw [k_thing_55_S, k_thing_55_S, k_thing_55_S, k_thing_55_S, k_thing_55_0, nI_clamp (n := N) (by omega)]
  rfl
theorem p_thing (R : Rel N K A B) (srt : Int32) : RS (k_thing N K A srt) (m_thing N K B Q srt) := by
  have hN := R.hN
  rw [k_thing, m_thing]
  by_cases c1 : srt < (0 : Int32)
  · rw [if_pos c1, if_pos (inM_0.mpr (Or.inl c1))]; exact ⟨rfl, rfl, rfl, R⟩
  · rw [if_neg c1]
    by_cases c2 : srt ≤ (4 : Int32)
    · obtain ⟨s, hs, rfl⟩ := nI_of2 (n := 4) (by decide) c1 c2
      rw [if_pos c2, if_neg (fun q => (inM_0.mp q).elim (fun q => c1 q) (fun q => absurd c2 (Int32.not_le.mpr q)))]
      by_cases c3 : N = 30
      · subst c3
        rw [if_neg (show ¬ nI 30 < (30 : Int32) by decide), if_pos (show nI 30 = (30 : Int32) from rfl)]; exact ⟨rfl, rfl, rfl, R⟩
      · have h30 : N < 30 := by omega
        rw [if_pos (show nI N < (30 : Int32) from nI_lt (b := 30) h30 (by omega)), if_neg (show ¬ nI N = (30 : Int32) from fun q => c3 ((nI_eq (b := 30) (by omega) (by omega)).mp q)), k_thing_4 h30, nI_clamp (n := N) (by omega)]
        refine ⟨(nI_pred N).symm, rfl, rfl, Rel_thing R h30 hs ?_ ?_ ?_ ?_ ?_ ?_ ?_ ?_ ?_⟩
        · rfl
        · rfl
        · intro m hm
          rcases (show m = 0 ∨ m = 1 ∨ m = 2 ∨ m = 3 by omega) with e | e | e | e <;> subst e <;> rfl
        · intro r hr
          show sU (sU (sU (sU (sU (sU A 0 N _) 1 N _) 2 N _) 3 N _) 4 N _) 5 N _ r = A r
          rw [sU_ne _ _ _ (by omega), sU_ne _ _ _ (by omega), sU_ne _ _ _ (by omega), sU_ne _ _ _ (by omega), sU_ne _ _ _ (by omega), sU_ne _ _ _ (by omega)]
        · rfl
        · rfl
        · intro m hm
          show (sU (sU (sU (sU (sU (sU B 0 N _) 1 N _) 2 (4 * N + 0) _) 2 (4 * N + 1) _) 2 (4 * N + 2) _) 2 (4 * N + 3) _) 2 (4 * N + m) = _
          rw [sU_same, sU_same, sU_same, sU_same]
          rcases (show m = 0 ∨ m = 1 ∨ m = 2 ∨ m = 3 by omega) with e | e | e | e <;> subst e
          · rw [pk_un (by omega), pk_un (by omega), pk_un (by omega), pk_us]
          · rw [pk_un (by omega), pk_un (by omega), pk_us]
          · rw [pk_un (by omega), pk_us]
          · rw [pk_us]
        · intro i hi
          show (sU (sU (sU (sU (sU (sU B 0 N _) 1 N _) 2 (4 * N + 0) _) 2 (4 * N + 1) _) 2 (4 * N + 2) _) 2 (4 * N + 3) _) 2 i = _
          rw [sU_same, sU_same, sU_same, sU_same, pk_un (by omega), pk_un (by omega), pk_un (by omega), pk_un (by omega)]
          rfl
        · intro r hr
          show sU (sU (sU (sU (sU (sU B 0 N _) 1 N _) 2 (4 * N + 0) _) 2 (4 * N + 1) _) 2 (4 * N + 2) _) 2 (4 * N + 3) _ r = B r
          rw [sU_ne _ _ _ (by omega), sU_ne _ _ _ (by omega), sU_ne _ _ _ (by omega), sU_ne _ _ _ (by omega), sU_ne _ _ _ (by omega), sU_ne _ _ _ (by omega)]
    · rw [if_neg c2, if_pos (inM_0.mpr (Or.inr (Int32.not_le.mp c2)))]; exact ⟨rfl, rfl, rfl, R⟩
theorem Rel_door (R : Rel N K A B) (hK : K < 10) {A' B' : Nat → Nat → Int32} {f t : Nat} (hf : f < N) (ht : t < N) (hne : f ≠ t) (f0 : B 0 f = (0 : Int32)) (t0 : B 0 t = (0 : Int32))
    (a6 : A' 6 = upd (A 6) K (nI f)) (a7 : A' 7 = upd (A 7) K (nI t)) (a8 : A' 8 = upd (A 8) K (0 : Int32)) (a9 : A' 9 = upd (A 9) K (0 : Int32)) (ao : ∀ r, r < 6 → A' r = A r)
    (b3 : B' 3 = upd (B 3) K (nI f)) (b4 : B' 4 = upd (B 4) K (nI t)) (b5 : B' 5 = upd (B 5) K (0 : Int32)) (b6 : B' 6 = upd (B 6) K (0 : Int32)) (bo : ∀ r, r < 3 → B' r = B r) : Rel N (K + 1) A' B' := by
  refine ⟨⟨R.hN, by omega⟩, ⟨fun j hj => ?_, fun j hj => ?_, fun j m hj hm => ?_, fun d hd => ?_⟩, fun j hj => ?_, fun j hj => ?_, fun j m hj hm => ?_, fun d hd => ?_⟩
  · rw [ao 0 (by omega), bo 0 (by omega)]; exact R.sr hj
  · rw [ao 1 (by omega), bo 1 (by omega)]; exact R.ho hj
  · rw [ao (2 + m) (by omega), bo 2 (by omega)]; exact R.mk hj hm
  · rw [a6, a7, a8, a9, b3, b4, b5, b6]
    rcases (show d = K ∨ d < K by omega) with e | h
    · subst e; rw [pk_us, pk_us, pk_us, pk_us, pk_us, pk_us, pk_us, pk_us]; exact ⟨rfl, rfl, rfl, rfl⟩
    · rw [pk_un (by omega), pk_un (by omega), pk_un (by omega), pk_un (by omega), pk_un (by omega), pk_un (by omega), pk_un (by omega), pk_un (by omega)]; exact R.dr h
  · rw [bo 0 (by omega), bo 1 (by omega)]; exact ⟨R.so hj, R.rm hj⟩
  · rw [bo 1 (by omega)]; exact R.hC j hj
  · rw [bo 2 (by omega)]; exact R.mv hj hm
  · rw [b3, b4, bo 0 (by omega)]
    rcases (show d = K ∨ d < K by omega) with e | h
    · subst e; rw [pk_us, pk_us]; exact ⟨f, t, hf, ht, rfl, rfl, hne, f0, t0⟩
    · rw [pk_un (by omega), pk_un (by omega)]; exact R.de h
theorem k_door_2 (hK : K < 10) (A1 : Nat → Nat → Int32) : k_door_71 N (K + 1) (nI K) 2 0 A1 = (nI K, N, K + 1, sU (sU A1 8 K (0 : Int32)) 9 K (0 : Int32)) := by
  rw [k_door_71_S, k_door_71_S, k_door_71_0, nI_clamp (n := K) (by omega)]
  rfl
theorem p_door (R : Rel N K A B) (x y : Int32) : RS (k_door N K A x y) (m_door N K B Q x y) := by
  have hN := R.hN
  have hK := R.hK
  rw [k_door, m_door]
  by_cases c1 : k_sortOf N K A x = (0 : Int32)
  · rw [if_pos c1, if_neg (fun q => (eO_0 R x (by decide)).mp q c1)]
    by_cases c2 : k_sortOf N K A y = (0 : Int32)
    · rw [if_pos c2, if_neg (fun q => (eO_0 R y (by decide)).mp q c2)]
      obtain ⟨f, hf, rfl⟩ := isThing_j hN (sortOf_k c1 (by decide))
      obtain ⟨t, ht, rfl⟩ := isThing_j hN (sortOf_k c2 (by decide))
      by_cases c3 : nI f = nI t
      · rw [if_pos c3, if_pos c3]; exact ⟨rfl, rfl, rfl, R⟩
      · rw [if_neg c3, if_neg c3]
        by_cases c4 : K = 10
        · subst c4
          rw [if_neg (show ¬ nI 10 < (10 : Int32) by decide), if_pos (show nI 10 = (10 : Int32) from rfl)]; exact ⟨rfl, rfl, rfl, R⟩
        · have h10 : K < 10 := by omega
          rw [if_pos (show nI K < (10 : Int32) from nI_lt (b := 10) h10 (by omega)), if_neg (show ¬ nI K = (10 : Int32) from fun q => c4 ((nI_eq (b := 10) (by omega) (by omega)).mp q)), k_door_2 h10, nI_clamp (n := K) (by omega)]
          refine ⟨(nI_pred K).symm, rfl, rfl, Rel_door R h10 hf ht (fun e => c3 (by rw [e])) (by rw [← eS_j R hf]; exact c1) (by rw [← eS_j R ht]; exact c2) rfl rfl rfl rfl (fun r hr => ?_) rfl rfl rfl rfl (fun r hr => ?_)⟩
          · show sU (sU (sU (sU A 6 K _) 7 K _) 8 K _) 9 K _ r = A r
            rw [sU_ne _ _ _ (by omega), sU_ne _ _ _ (by omega), sU_ne _ _ _ (by omega), sU_ne _ _ _ (by omega)]
          · show sU (sU (sU (sU B 3 K _) 4 K _) 5 K _) 6 K _ r = B r
            rw [sU_ne _ _ _ (by omega), sU_ne _ _ _ (by omega), sU_ne _ _ _ (by omega), sU_ne _ _ _ (by omega)]
    · rw [if_neg c2, if_pos ((eO_0 R y (by decide)).mpr c2)]; exact ⟨rfl, rfl, rfl, R⟩
  · rw [if_neg c1, if_pos ((eO_0 R x (by decide)).mpr c1)]; exact ⟨rfl, rfl, rfl, R⟩
end AC
