/-! What holds between the class's rows A and the reference's rows B; both read the same of them. -/
def Rel (N K : Nat) (A B : Nat → Nat → Int32) : Prop :=
  (N ≤ 30 ∧ K ≤ 10) ∧ ((∀ j, j < N → A 0 j = B 0 j) ∧ (∀ j, j < N → A 1 j = B 1 j) ∧ (∀ j m, j < N → m < 4 → A (2 + m) j = B 2 (4 * j + m)) ∧ ∀ d, d < K → A 6 d = B 3 d ∧ A 7 d = B 4 d ∧ A 8 d = B 5 d ∧ A 9 d = B 6 d) ∧
  (∀ j, j < N → (∃ s : Nat, s ≤ 4 ∧ B 0 j = nI s) ∧ (B 0 j = (0 : Int32) → B 1 j = (-1 : Int32))) ∧ chs N B ∧ (∀ j m, j < N → m < 4 → ∃ v : Nat, v ≤ 9 ∧ B 2 (4 * j + m) = nI v) ∧
  ∀ d, d < K → ∃ f t : Nat, f < N ∧ t < N ∧ B 3 d = nI f ∧ B 4 d = nI t ∧ f ≠ t ∧ B 0 f = (0 : Int32) ∧ B 0 t = (0 : Int32)
theorem Rel.hN {N K : Nat} {A B : Nat → Nat → Int32} (R : Rel N K A B) : N ≤ 30 := R.1.1
theorem Rel.hK {N K : Nat} {A B : Nat → Nat → Int32} (R : Rel N K A B) : K ≤ 10 := R.1.2
theorem Rel.sr {N K : Nat} {A B : Nat → Nat → Int32} (R : Rel N K A B) {j : Nat} (h : j < N) : A 0 j = B 0 j := R.2.1.1 j h
theorem Rel.ho {N K : Nat} {A B : Nat → Nat → Int32} (R : Rel N K A B) {j : Nat} (h : j < N) : A 1 j = B 1 j := R.2.1.2.1 j h
theorem Rel.mk {N K : Nat} {A B : Nat → Nat → Int32} (R : Rel N K A B) {j m : Nat} (h : j < N) (hm : m < 4) : A (2 + m) j = B 2 (4 * j + m) := R.2.1.2.2.1 j m h hm
theorem Rel.dr {N K : Nat} {A B : Nat → Nat → Int32} (R : Rel N K A B) {d : Nat} (h : d < K) : A 6 d = B 3 d ∧ A 7 d = B 4 d ∧ A 8 d = B 5 d ∧ A 9 d = B 6 d := R.2.1.2.2.2 d h
theorem Rel.so {N K : Nat} {A B : Nat → Nat → Int32} (R : Rel N K A B) {j : Nat} (h : j < N) : ∃ s : Nat, s ≤ 4 ∧ B 0 j = nI s := (R.2.2.1 j h).1
theorem Rel.rm {N K : Nat} {A B : Nat → Nat → Int32} (R : Rel N K A B) {j : Nat} (h : j < N) (h0 : B 0 j = (0 : Int32)) : B 1 j = (-1 : Int32) := (R.2.2.1 j h).2 h0
theorem Rel.hC {N K : Nat} {A B : Nat → Nat → Int32} (R : Rel N K A B) : chs N B := R.2.2.2.1
theorem Rel.mv {N K : Nat} {A B : Nat → Nat → Int32} (R : Rel N K A B) {j m : Nat} (h : j < N) (hm : m < 4) : ∃ v : Nat, v ≤ 9 ∧ B 2 (4 * j + m) = nI v := R.2.2.2.2.1 j m h hm
theorem Rel.de {N K : Nat} {A B : Nat → Nat → Int32} (R : Rel N K A B) {d : Nat} (h : d < K) : ∃ f t : Nat, f < N ∧ t < N ∧ B 3 d = nI f ∧ B 4 d = nI t ∧ f ≠ t ∧ B 0 f = (0 : Int32) ∧ B 0 t = (0 : Int32) := R.2.2.2.2.2 d h
theorem Rel.hDr {N K : Nat} {A B : Nat → Nat → Int32} (R : Rel N K A B) : drM N K B := by
  intro d hd
  obtain ⟨f, t, h1, h2, h3, h4, -⟩ := R.de hd
  exact ⟨⟨f, h1, h3⟩, ⟨t, h2, h4⟩⟩
theorem nI_pr {n : Nat} (hn : n ≤ 30) (x : Int32) : nI n - (1 : Int32) < x ↔ nI n ≤ x := by
  rw [Int32.lt_iff_toInt_lt, Int32.le_iff_toInt_le, show (1 : Int32) = nI 1 from rfl, pk_sub_toInt (by omega) (by omega), nI_toInt (by omega)]
  omega
section RE
variable {N K : Nat} {A B : Nat → Nat → Int32}
theorem eT {Q : Nat → Nat → Int32} (R : Rel N K A B) (x : Int32) : m_isThing N K B Q x = k_isThing N K A x := by
  rw [m_isThing, m_in, k_isThing]
  by_cases c1 : x < (0 : Int32)
  · rw [if_pos c1, if_pos c1]
  · rw [if_neg c1, if_neg c1]
    by_cases c2 : nI N ≤ x
    · rw [if_pos c2, if_pos ((nI_pr R.hN x).mpr c2)]
    · rw [if_neg c2, if_neg (fun q => c2 ((nI_pr R.hN x).mp q))]
theorem eDo {Q : Nat → Nat → Int32} (R : Rel N K A B) (x : Int32) : m_isDoor N K B Q x = k_isDoor N K A x := by
  have hK : K ≤ 30 := Nat.le_trans R.hK (by omega)
  rw [m_isDoor, m_in, k_isDoor]
  by_cases c1 : x < (0 : Int32)
  · rw [if_pos c1, if_pos c1]
  · rw [if_neg c1, if_neg c1]
    by_cases c2 : nI K ≤ x
    · rw [if_pos c2, if_pos ((nI_pr hK x).mpr c2)]
    · rw [if_neg c2, if_neg (fun q => c2 ((nI_pr hK x).mp q))]
theorem eS_j (R : Rel N K A B) {j : Nat} (h : j < N) : k_sortOf N K A (nI j) = B 0 j := by
  rw [k_sortOf, if_neg (isThing_n0 R.hN h), nI_clamp (by have := R.hN; omega), R.sr h]
theorem eH_j (R : Rel N K A B) {j : Nat} (h : j < N) : k_holderOf N K A (nI j) = B 1 j := by
  rw [k_holderOf, if_neg (isThing_n0 R.hN h), nI_clamp (by have := R.hN; omega), R.ho h]
theorem eMk_j (R : Rel N K A B) {j m : Nat} (h : j < N) (hm : m < 4) : k_markOf N K A (nI j) (nI m) = B 2 (4 * j + m) := by
  have hN := R.hN
  rw [k_markOf, if_neg (isThing_n0 hN h), if_neg (nI_pos (by omega)), if_neg (show ¬ (4 : Int32) ≤ nI m from nI_ge (a := m) (b := 4) hm (by omega)), nI_clamp (by omega), nI_clamp (by omega), R.mk h hm]
theorem eS_no {x : Int32} (h : k_isThing N K A x = (0 : Int32)) : k_sortOf N K A x = (-1 : Int32) := by rw [k_sortOf, if_pos h]
theorem eO {Q : Nat → Nat → Int32} (R : Rel N K A B) (x : Int32) {s : Int32} (hs : ¬ s = (-1 : Int32)) : m_isOf N K B Q x s = (if k_sortOf N K A x = s then (1 : Int32) else (0 : Int32)) := by
  rw [m_isOf, eT R]
  by_cases c : k_isThing N K A x = (0 : Int32)
  · rw [if_pos c, eS_no c, if_neg (fun q => hs q.symm)]
  · obtain ⟨j, hj, rfl⟩ := isThing_j R.hN c
    rw [if_neg c, eS_j R hj, nI_clamp (by have := R.hN; omega)]
theorem eO_0 {Q : Nat → Nat → Int32} (R : Rel N K A B) (x : Int32) {s : Int32} (hs : ¬ s = (-1 : Int32)) : m_isOf N K B Q x s = (0 : Int32) ↔ ¬ k_sortOf N K A x = s := by
  rw [eO R x hs]
  by_cases c : k_sortOf N K A x = s
  · rw [if_pos c]; exact ⟨fun q => absurd q (by decide), fun q => absurd c q⟩
  · rw [if_neg c]; exact ⟨fun _ => c, fun _ => rfl⟩
theorem eP_0 {Q : Nat → Nat → Int32} (R : Rel N K A B) (x : Int32) : m_isOf N K B Q x (3 : Int32) = (0 : Int32) ↔ k_isPerson N K A x = (0 : Int32) := by
  rw [eO_0 R x (by decide), k_isPerson]
  by_cases c : k_sortOf N K A x = (3 : Int32)
  · rw [if_pos c]; exact ⟨fun q => absurd c q, fun q => absurd q (by decide)⟩
  · rw [if_neg c]; exact ⟨fun _ => rfl, fun _ => c⟩
theorem eSp {Q : Nat → Nat → Int32} (R : Rel N K A B) (x : Int32) : m_isSpace N K B Q x = k_isSpace N K A x := by
  rw [m_isSpace, k_isSpace]
  by_cases c0 : k_sortOf N K A x = (0 : Int32)
  · rw [if_pos c0, if_neg (fun q => (eO_0 R x (by decide)).mp q c0)]
  · rw [if_neg c0, if_pos ((eO_0 R x (by decide)).mpr c0)]
    by_cases c1 : k_sortOf N K A x = (1 : Int32)
    · rw [if_pos c1, if_neg (fun q => (eO_0 R x (by decide)).mp q c1)]
    · rw [if_neg c1, if_pos ((eO_0 R x (by decide)).mpr c1)]
theorem eW_9 {Q : Nat → Nat → Int32} (R : Rel N K A B) {y : Int32} (hy : ¬ y = (-1 : Int32)) : ∀ (k i : Nat) (v : Int32), chp N (B 1) k v → k_isWithin_9 N K A y k i v = m_isWithin_7 N K B Q y k v := by
  intro k
  induction k with
  | zero => intro i v _; rfl
  | succ k ih =>
    intro i v hc
    rw [k_isWithin_9_S, m_isWithin_7_S]
    by_cases c1 : v = (-1 : Int32)
    · rw [if_pos c1, if_pos c1, if_neg (show ¬ v = y from fun q => hy (q.symm.trans c1))]
    · rw [if_neg c1, if_neg c1]
      by_cases c2 : v = y
      · rw [if_pos c2, if_pos c2, if_neg hy]
      · obtain ⟨j, hj, rfl⟩ := chp_j hc c1
        rw [if_neg c2, if_neg c2, eH_j R hj, ih (i + 1) _ (by have := chp_next R.hN hc c1; rwa [nI_clamp (by have := R.hN; omega)] at this), nI_clamp (by have := R.hN; omega)]
theorem eW {Q : Nat → Nat → Int32} (R : Rel N K A B) {y : Int32} (hy : ¬ y = (-1 : Int32)) {j : Nat} (hj : j < N) : k_isWithin N K A (nI j) y = m_isWithin N K B Q (nI j) y := by
  rw [k_isWithin, m_isWithin, eH_j R hj, eW_9 R hy 30 0 _ (R.hC j hj), nI_clamp (by have := R.hN; omega)]
theorem eSc_18 {Q : Nat → Nat → Int32} (R : Rel N K A B) : ∀ (k i : Nat) (v : Int32), chp N (B 1) k v → k_spaceOf_18 N K A k i v = m_spaceOf_18 N K B Q k v := by
  intro k
  induction k with
  | zero => intro i v hc; exact absurd hc chp_0
  | succ k ih =>
    intro i v hc
    rw [k_spaceOf_18_S, m_spaceOf_18_S]
    by_cases c1 : v = (-1 : Int32)
    · rw [if_pos c1, if_pos c1, c1]
    · rw [if_neg c1, if_neg c1, eSp R]
      by_cases c2 : k_isSpace N K A v = (0 : Int32)
      · obtain ⟨j, hj, rfl⟩ := chp_j hc c1
        rw [if_pos c2, if_pos c2, eH_j R hj, ih (i + 1) _ (by have := chp_next R.hN hc c1; rwa [nI_clamp (by have := R.hN; omega)] at this), nI_clamp (by have := R.hN; omega)]
      · rw [if_neg c2, if_neg c2]
theorem eSc {Q : Nat → Nat → Int32} (R : Rel N K A B) {j : Nat} (hj : j < N) : k_spaceOf N K A (nI j) = m_spaceOf N K B Q (nI j) := by
  rw [k_spaceOf, m_spaceOf, eS_j R hj, eH_j R hj, eSc_18 (Q := Q) R 30 0 _ (R.hC j hj), nI_clamp (by have := R.hN; omega)]
theorem eHb_4 {Q : Nat → Nat → Int32} (R : Rel N K A B) (y : Int32) : ∀ (k i : Nat) (v : Int32), i + k = N → k_countHeldBy_4 N K A y k i v = m_heldBy_4 N K B Q y k i v := by
  intro k
  induction k with
  | zero => intro i v _; rfl
  | succ k ih =>
    intro i v hi
    have hN := R.hN
    rw [k_countHeldBy_4_S, m_heldBy_4_S, nI_clamp (by omega), R.ho (show i < N by omega)]
    by_cases c : B 1 i = y
    · rw [if_pos c, if_pos c]; exact ih _ _ (by omega)
    · rw [if_neg c, if_neg c, Int32.add_zero]; exact ih _ _ (by omega)
theorem eHb {Q : Nat → Nat → Int32} (R : Rel N K A B) (y : Int32) : k_countHeldBy N K A y = m_heldBy N K B Q y := eHb_4 R y N 0 _ (by omega)
theorem eFu {Q : Nat → Nat → Int32} (R : Rel N K A B) {j : Nat} (hj : j < N) : k_isFull N K A (nI j) = (0 : Int32) ↔ ¬ m_hasRoom N K B Q (nI j) = (0 : Int32) := by
  rw [k_isFull, m_hasRoom, eS_j R hj, eHb (Q := Q) R, nI_clamp (by have := R.hN; omega)]
  by_cases c : B 0 j = (0 : Int32)
  · rw [if_pos c, if_pos c]; decide
  · rw [if_neg c, if_neg c]
    by_cases c2 : m_heldBy N K B Q (nI j) < (8 : Int32)
    · rw [if_pos c2, if_neg (Int32.not_le.mpr c2)]; decide
    · rw [if_neg c2, if_pos (Int32.not_lt.mp c2)]; decide
theorem eSh {Q : Nat → Nat → Int32} (R : Rel N K A B) {j : Nat} (hj : j < N) : k_isShutBox N K A (nI j) = m_isShut N K B Q (nI j) := by
  have hN := R.hN
  have e := eMk_j R hj (m := 0) (by omega)
  have e2 : ((4 : Int32) * nI j).toNatClampNeg = 4 * j + 0 := by rw [show (4 : Int32) = nI 4 from rfl, pk_mul, nI_clamp (by omega)]; rfl
  rw [k_isShutBox, m_isShut, eS_j R hj, show (0 : Int32) = nI 0 from rfl, e, e2, nI_clamp (by omega)]
theorem ePe (R : Rel N K A B) {j : Nat} (hj : j < N) : k_isPerson N K A (nI j) = (0 : Int32) ↔ ¬ B 0 j = (3 : Int32) := by
  rw [k_isPerson, eS_j R hj]
  by_cases c : B 0 j = (3 : Int32)
  · rw [if_pos c]; exact ⟨fun q => absurd q (by decide), fun q => absurd c q⟩
  · rw [if_neg c]; exact ⟨fun _ => c, fun _ => rfl⟩
end RE
