/-! Views: sets of places as bits; the reference's rows of what is joined by boxes. -/
def bi (x : Int32) (i : Nat) : Bool := x.toBitVec.getLsbD i
theorem bi_ext {x y : Int32} (h : ∀ i, bi x i = bi y i) : x = y := Int32.toBitVec_inj.mp (BitVec.eq_of_getLsbD_eq (fun i _ => h i))
theorem bi_or (x y : Int32) (i : Nat) : bi (x ||| y) i = (bi x i || bi y i) := by unfold bi; rw [Int32.toBitVec_or, BitVec.getLsbD_or]
theorem bi_and (x y : Int32) (i : Nat) : bi (x &&& y) i = (bi x i && bi y i) := by unfold bi; rw [Int32.toBitVec_and, BitVec.getLsbD_and]
theorem bi_0 (i : Nat) : bi (0 : Int32) i = false := BitVec.getLsbD_zero
theorem bi_1s : ∀ n, n < 32 → ((1 : Int32) <<< (nI n &&& 31)).toBitVec = BitVec.twoPow 32 n := by decide +kernel
theorem bi_one {n : Nat} (hn : n < 32) (i : Nat) : bi ((1 : Int32) <<< (nI n &&& 31)) i = decide (n = i) := by
  unfold bi
  rw [bi_1s n hn, BitVec.getLsbD_twoPow]
  by_cases c : n = i
  · subst c; simp [hn]
  · simp [c]
theorem bi_z {x : Int32} : x = (0 : Int32) ↔ ∀ i, bi x i = false := ⟨fun h i => by rw [h]; exact bi_0 i, fun h => bi_ext (fun i => by rw [h, bi_0])⟩
/-- a bit as a level -/
def lb (x : Int32) (i : Nat) : Nat := if bi x i = true then 1 else 0
theorem lb_inj {x y : Int32} (h : lb x = lb y) : x = y := bi_ext (fun i => by
  have e := congrFun h i
  unfold lb at e
  cases a : bi x i <;> cases b : bi y i <;> rw [a, b] at e <;> first | rfl | cases e)
theorem lb_01 (x : Int32) (i : Nat) : (lb x i = 1 ∧ bi x i = true) ∨ (lb x i = 0 ∧ bi x i = false) := by
  unfold lb
  cases bi x i
  · exact Or.inr ⟨rfl, rfl⟩
  · exact Or.inl ⟨rfl, rfl⟩
theorem ends_v {v : Int32} {i t : Nat} (hi : i < 30) (ht : t < 30) (x : Nat) : bi (k_endsIfTouched v (nI i) (nI t)) x = ((bi v i || bi v t) && (decide (i = x) || decide (t = x))) := by
  have e : ∀ y, bi (((1 : Int32) <<< (nI i &&& 31)) ||| ((1 : Int32) <<< (nI t &&& 31))) y = (decide (i = y) || decide (t = y)) := fun y => by rw [bi_or, bi_one (by omega), bi_one (by omega)]
  rw [k_endsIfTouched, if_neg (nI_pos (by omega)), if_pos (nI_pos' (by omega))]
  by_cases c : v &&& (((1 : Int32) <<< (nI i &&& 31)) ||| ((1 : Int32) <<< (nI t &&& 31))) = (0 : Int32)
  · have h := bi_z.mp c
    have h1 := h i
    have h2 := h t
    rw [bi_and, e] at h1 h2
    simp only [decide_true, Bool.true_or, Bool.or_true, Bool.and_true] at h1 h2
    rw [if_pos c, bi_0, h1, h2]
    rfl
  · rw [if_neg c, e]
    cases h1 : bi v i
    · cases h2 : bi v t
      · exact absurd (bi_z.mpr (fun y => by
          rw [bi_and, e]
          by_cases q1 : i = y
          · subst q1; rw [h1]; rfl
          · by_cases q2 : t = y
            · subst q2; rw [h2]; rfl
            · rw [decide_eq_false q1, decide_eq_false q2]; cases bi v y <;> rfl)) c
      · rfl
    · rfl
theorem ends_m1 (v x : Int32) : k_endsIfTouched v x (-1 : Int32) = (0 : Int32) := by
  rw [k_endsIfTouched, if_neg (show ¬ (0 : Int32) ≤ (-1 : Int32) by decide)]
  by_cases c : x < (0 : Int32)
  · rw [if_pos c]
  · rw [if_neg c]
theorem lb_rx {v : Int32} {i t : Nat} (hi : i < 30) (ht : t < 30) : lb (v ||| k_endsIfTouched v (nI i) (nI t)) = rx (lb v) i t 0 := by
  have e : ∀ x, lb (v ||| k_endsIfTouched v (nI i) (nI t)) x = if (bi v x || ((bi v i || bi v t) && (decide (i = x) || decide (t = x)))) = true then 1 else 0 := fun x => by
    unfold lb; rw [bi_or, ends_v hi ht]
  funext x
  rw [e]
  unfold rx
  rcases lb_01 v i with ⟨a1, a2⟩ | ⟨a1, a2⟩ <;> rcases lb_01 v t with ⟨b1, b2⟩ | ⟨b1, b2⟩ <;> rw [a1, b1, a2, b2]
  · show _ = lb v x
    unfold lb
    by_cases q1 : i = x
    · subst q1; rw [a2]; rfl
    · by_cases q2 : t = x
      · subst q2; rw [b2]; rfl
      · rw [decide_eq_false q1, decide_eq_false q2]; cases bi v x <;> rfl
  · show _ = va_up (lb v) t 1 x
    by_cases q2 : x = t
    · subst q2; rw [va_up_self, decide_eq_true rfl]; cases bi v x <;> cases decide (i = x) <;> rfl
    · rw [va_up_ne _ _ q2]
      unfold lb
      by_cases q1 : i = x
      · subst q1; rw [a2]; rfl
      · rw [decide_eq_false q1, decide_eq_false (fun z => q2 z.symm)]; cases bi v x <;> rfl
  · show _ = va_up (lb v) i 1 x
    by_cases q2 : x = i
    · subst q2; rw [va_up_self, decide_eq_true rfl]; cases bi v x <;> rfl
    · rw [va_up_ne _ _ q2]
      unfold lb
      by_cases q1 : t = x
      · subst q1; rw [b2]; simp
      · rw [decide_eq_false q1, decide_eq_false (fun z => q2 z.symm)]; cases bi v x <;> rfl
  · show _ = lb v x
    unfold lb
    cases bi v x <;> rfl
/-- reached over some way -/
def rc (E : Nat → Nat → Nat → Prop) (a b : Nat) : Prop := ∃ k w, wk E k a b w
theorem rc_rf {E : Nat → Nat → Nat → Prop} (a : Nat) : rc E a a := ⟨0, 0, rfl, rfl⟩
theorem rc_tr {E : Nat → Nat → Nat → Prop} {a b c : Nat} (h : rc E a b) (h' : rc E b c) : rc E a c := by
  obtain ⟨k, w, h⟩ := h
  obtain ⟨k', w', h'⟩ := h'
  exact ⟨k + k', w + w', wk_app k' k h h'⟩
def z0 (q : Nat × Nat × Nat) : Nat × Nat × Nat := (q.1, q.2.1, 0)
theorem El_z0 {es : List (Nat × Nat × Nat)} {y x w : Nat} : El (es.map z0) y x w ↔ w = 0 ∧ ∃ w', El es y x w' := by
  constructor
  · rintro ⟨q, h1, h2, h3⟩
    obtain ⟨p, hp, rfl⟩ := List.mem_map.mp h1
    exact ⟨h2.symm, p.2.2, p, hp, rfl, h3⟩
  · rintro ⟨rfl, w', q, h1, h2, h3⟩
    exact ⟨z0 q, List.mem_map.mpr ⟨q, h1, rfl⟩, rfl, h3⟩
theorem wk_z0 {es : List (Nat × Nat × Nat)} {a : Nat} : ∀ (k : Nat) {b w : Nat}, wk (El es) k a b w → wk (El (es.map z0)) k a b 0 := by
  intro k
  induction k with
  | zero => intro b w h; exact ⟨h.1, rfl⟩
  | succ k ih =>
    intro b w h
    obtain ⟨c, w1, w2, h1, h2, -⟩ := h
    exact ⟨c, 0, 0, ih h1, El_z0.mpr ⟨rfl, w2, h2⟩, rfl⟩
section RC
variable {N : Nat} {es : List (Nat × Nat × Nat)}
theorem gA_rc {L0 : Nat → Nat} {P : Nat → Bool} : ∀ (k : Nat) {y v : Nat}, gA (El (es.map z0)) L0 P k y v → 1 ≤ v → ∃ z, P z = true ∧ 1 ≤ L0 z ∧ rc (El es) z y := by
  intro k
  induction k with
  | zero => intro y v h hv; exact ⟨y, h.1, by rw [← h.2]; exact hv, rc_rf y⟩
  | succ k ih =>
    intro y v h hv
    rcases h with h | ⟨-, y', w, u, hE, hu, e⟩
    · exact ih h hv
    · obtain ⟨z, z1, z2, z3⟩ := ih hu (by omega)
      obtain ⟨-, w', hw⟩ := El_z0.mp hE
      exact ⟨z, z1, z2, rc_tr z3 ⟨1, w', y', 0, w', ⟨rfl, rfl⟩, hw, by omega⟩⟩
theorem gA_lim (hw : ∀ q ∈ es, q.2.2 ≤ 3) {D : Nat → Nat → Nat} (hf : fwOK N (El es) D) (hin : ∀ q ∈ es, q.1 < N ∧ q.2.1 < N) {a : Nat} (ha : a < N) : ∀ (k : Nat) {y v : Nat}, gA (El (es.map z0)) (va_up (fun _ => 0) a 1) (inN N) k y v → 1 ≤ v → D a y ≤ 3 * k := by
  intro k
  induction k with
  | zero =>
    intro y v h hv
    by_cases c : y = a
    · subst c; rw [hf.1 y ha]; omega
    · have := h.2; rw [va_up_ne _ _ c] at this; omega
  | succ k ih =>
    intro y v h hv
    rcases h with h | ⟨hy, y', w, u, hE, hu, e⟩
    · have := ih h hv; omega
    · have d1 := ih hu (by omega)
      obtain ⟨-, w', hw'⟩ := El_z0.mp hE
      obtain ⟨n1, n2⟩ := El_in hin hw'
      have d2 := hf.2.1 a y y' ha n2 n1
      have d3 := hf.2.2.1 y' y w' n1 n2 hw'
      obtain ⟨q, q1, q2, -⟩ := hw'
      have := hw q q1
      omega
theorem rc_D (hN : N ≤ 30) (hw : ∀ q ∈ es, q.2.2 ≤ 3) {D : Nat → Nat → Nat} (hf : fwOK N (El es) D) (hin : ∀ q ∈ es, q.1 < N ∧ q.2.1 < N) {a b : Nat} (ha : a < N) (hb : b < N) : D a b < 1000 ↔ rc (El es) a b := by
  constructor
  · intro h
    obtain ⟨k, hk⟩ := hf.2.2.2.1 a b ha hb h
    exact ⟨k, _, hk⟩
  · rintro ⟨k, w, h⟩
    have ga := wk_gA (L0 := va_up (fun _ => 0) a 1) (P := inN N) (fun y x w hE => by
      obtain ⟨-, w', hE'⟩ := El_z0.mp hE
      have := El_in hin hE'
      exact ⟨inN_iff.mpr this.1, inN_iff.mpr this.2⟩) (inN_iff.mpr ha) k (wk_z0 k h)
    rw [va_up_self] at ga
    obtain ⟨v', h1, h2⟩ := gA_short (N := N) 29 (inN N) (Nat.le_trans (gC_le _ _) hN) (fun i hi => inN_iff.mp hi) k b _ ga
    have := gA_lim hw hf hin ha 29 h2 (by omega)
    omega
theorem gOK_rc (hin : ∀ q ∈ es, q.1 < N ∧ q.2.1 < N) {L : Nat → Nat} {L0 : Nat → Nat} (h : gOK (El (es.map z0)) L0 (inN N) L) {y : Nat} (hy : y < N) : 1 ≤ L y ↔ ∃ z, z < N ∧ 1 ≤ L0 z ∧ rc (El es) z y := by
  constructor
  · intro h1
    obtain ⟨k, hk⟩ := h.1 y (inN_iff.mpr hy)
    obtain ⟨z, z1, z2, z3⟩ := gA_rc k hk h1
    exact ⟨z, inN_iff.mp z1, z2, z3⟩
  · rintro ⟨z, z1, z2, k, w, z3⟩
    have : ∀ (k : Nat) {b w : Nat}, wk (El es) k z b w → L z ≤ L b := by
      intro k
      induction k with
      | zero => intro b w h; rw [h.1]; exact Nat.le_refl _
      | succ k ih =>
        intro b w h2
        obtain ⟨c, w1, w2, g1, g2, -⟩ := h2
        obtain ⟨n1, n2⟩ := El_in hin g2
        have a1 := ih g1
        have a2 := h.2.2 c b 0 (inN_iff.mpr n1) (inN_iff.mpr n2) (El_z0.mpr ⟨rfl, w2, g2⟩)
        omega
    have a1 := this k z3
    have a2 := h.2.1 z (inN_iff.mpr z1)
    omega
end RC
section VW
variable {N K : Nat} {A B Q : Nat → Nat → Int32}
theorem wow24 (hN : N ≤ 30) : ∀ (k i : Nat) (v : Int32), i + k = N → lb (k_widenedOverWalls_24 N K A k i v) = rxs ((kwl N K A (nI 2) k i).map z0) (lb v) := by
  intro k
  induction k with
  | zero => intro i v _; rfl
  | succ k ih =>
    intro i v hi
    rw [k_widenedOverWalls_24_S, kwl, List.map_append, rxs_app, kw1, show (2 : Int32) = nI 2 from rfl]
    by_cases c1 : k_wallLoss N K A (nI i) (nI 2) = (-1 : Int32)
    · rw [if_pos c1, if_pos c1, ih _ _ (by omega)]; rfl
    · rw [if_neg c1, if_neg c1]
      rcases spaceOf_v (N := N) (K := K) (A := A) hN (nI i) with e | ⟨t, ht, e⟩
      · rw [e, if_pos rfl, ends_m1, ih _ _ (by omega), show v ||| (0 : Int32) = v from bi_ext (fun j => by rw [bi_or, bi_0, Bool.or_false])]; rfl
      · rw [e, if_neg (nI_m1 hN ht), ih _ _ (by omega), lb_rx (by omega) (by omega), nI_clamp (n := t) (by omega)]; rfl
theorem rxr_fix {es : List (Nat × Nat × Nat)} {L : Nat → Nat} (h : rxs es L = L) : ∀ (k : Nat) (c : Bool), rxr es k L c = L := by
  intro k
  induction k with
  | zero => intro c; rfl
  | succ k ih =>
    intro c
    rw [rxr]
    cases c
    · rfl
    · rw [if_neg (by decide), h, ih]
theorem wow7 (hN : N ≤ 30) : ∀ (k i : Nat) (v : Int32), lb (k_widenedOverWalls_7 N K A k i v (1 : Int32)) = rxr ((kwl N K A (nI 2) N 0).map z0) k (lb v) true := by
  intro k
  induction k with
  | zero => intro i v; rfl
  | succ k ih =>
    intro i v
    have e := wow24 (K := K) (A := A) hN N 0 v (by omega)
    rw [k_widenedOverWalls_7_S, if_neg (show ¬ (1 : Int32) = (0 : Int32) by decide), rxr, if_neg (show ¬ true = false by decide)]
    by_cases c : k_widenedOverWalls_24 N K A N 0 v = v
    · rw [if_pos c, c]
      rw [c] at e
      rw [← e, rxr_fix e.symm]
      cases k with
      | zero => rfl
      | succ k => rw [k_widenedOverWalls_7_S, if_pos rfl]
    · rw [if_neg c, ih, e]
      cases h : rxsc ((kwl N K A (nI 2) N 0).map z0) (lb v) false with
      | false => exact absurd (lb_inj (e.trans (rxsc_f _ _ _ h).2)) c
      | true => rfl
theorem ked00 : ked N K A 0 0 = kwl N K A (nI 2) N 0 := by rw [ked, if_pos rfl, List.append_nil]
theorem kwl_w (mk : Int32) : ∀ k i : Nat, ∀ q ∈ kwl N K A mk k i, q.2.2 ≤ 3 := by
  intro k
  induction k with
  | zero => intro i q hq; cases hq
  | succ k ih =>
    intro i q hq
    rw [kwl] at hq
    rcases List.mem_append.mp hq with h | h
    · rw [kw1] at h
      rcases wallLoss_v (N := N) (K := K) (A := A) (nI i) mk with c1 | ⟨w, hw, c1⟩
      · rw [if_pos c1] at h; cases h
      · by_cases c2 : k_wallLoss N K A (nI i) mk = (-1 : Int32)
        · rw [if_pos c2] at h; cases h
        · rw [if_neg c2] at h
          by_cases c3 : k_spaceOf N K A (nI i) = (-1 : Int32)
          · rw [if_pos c3] at h; cases h
          · rw [if_neg c3, List.mem_singleton] at h
            rw [h, c1]
            show (nI w).toNatClampNeg ≤ 3
            rw [nI_clamp (by omega)]; omega
    · exact ih (i + 1) q h
theorem wow_rc (R : Rel N K A B) {v : Int32} {y : Nat} (hy : y < N) : bi (k_widenedOverWalls N K A v) y = true ↔ ∃ z, z < N ∧ bi v z = true ∧ rc (El (ked N K A 0 0)) z y := by
  have hN := R.hN
  have hin := ked_in R 0 0
  have e := wow7 (K := K) (A := A) hN 30 0 v
  have ok : gOK (El ((ked N K A 0 0).map z0)) (lb v) (inN N) (lb (k_widenedOverWalls N K A v)) := by
    rw [k_widenedOverWalls, e, ← ked00]
    refine rxr_ok (N := N) (fun i hi => inN_iff.mp hi) (fun y x w _ _ hE => hE) (fun q hq => ?_) 30 0 (lb v) true (by omega) (fun x hx => ⟨0, hx, rfl⟩) (fun x v h => Nat.le_of_eq h.2) (fun q => absurd q (by decide))
    obtain ⟨p, hp, rfl⟩ := List.mem_map.mp hq
    exact ⟨inN_iff.mpr (hin p hp).1, inN_iff.mpr (hin p hp).2, ⟨z0 p, hq, rfl, Or.inl ⟨rfl, rfl⟩⟩, ⟨z0 p, hq, rfl, Or.inr ⟨rfl, rfl⟩⟩⟩
  have h := gOK_rc hin ok hy
  have l1 : ∀ (x : Int32) (j : Nat), 1 ≤ lb x j ↔ bi x j = true := fun x j => by
    rcases lb_01 x j with ⟨a1, a2⟩ | ⟨a1, a2⟩ <;> rw [a1, a2]
    · exact ⟨fun _ => rfl, fun _ => Nat.le_refl _⟩
    · exact ⟨fun q => by omega, fun q => by cases q⟩
  rw [← l1, h]
  exact ⟨fun ⟨z, z1, z2, z3⟩ => ⟨z, z1, (l1 _ _).mp z2, z3⟩, fun ⟨z, z1, z2, z3⟩ => ⟨z, z1, (l1 _ _).mpr z2, z3⟩⟩
/-- a door lets light through -/
def lit (B : Nat → Nat → Int32) (d : Nat) : Prop := B 5 d = (1 : Int32) ∨ B 6 d = (1 : Int32)
theorem lit_k (R : Rel N K A B) {d : Nat} (hd : d < K) : ¬ k_doorLoss N K A (nI d) (2 : Int32) = (-1 : Int32) ↔ lit B d := by
  have hK := R.hK
  have hdo : ¬ k_isDoor N K A (nI d) = (0 : Int32) := by
    rw [k_isDoor, if_neg (nI_pos (by omega)), if_neg (nI_ge hd (by omega))]; decide
  obtain ⟨-, -, d8, d9⟩ := R.dr hd
  rw [k_doorLoss, if_neg hdo, show 8 + (0 : Int32).toNatClampNeg = 8 from by decide, show 8 + (1 : Int32).toNatClampNeg = 9 from by decide, nI_clamp (n := d) (by omega), d8, d9, lit, if_neg (show ¬ (2 : Int32) = 3 by decide), if_neg (show ¬ (2 : Int32) = 3 by decide)]
  by_cases c1 : B 5 d = (1 : Int32)
  · rw [if_pos c1]; exact ⟨fun _ => Or.inl c1, fun _ => by decide⟩
  · rw [if_neg c1]
    by_cases c2 : B 6 d = (1 : Int32)
    · rw [if_pos c2]; exact ⟨fun _ => Or.inr c2, fun _ => by decide⟩
    · rw [if_neg c2]; exact ⟨fun q => absurd rfl q, fun q => q.elim (fun z => absurd z c1) (fun z => absurd z c2)⟩
def dF (B : Nat → Nat → Int32) (d : Nat) : Nat := (B 3 d).toNatClampNeg
def dT (B : Nat → Nat → Int32) (d : Nat) : Nat := (B 4 d).toNatClampNeg
theorem d_ok (R : Rel N K A B) {d : Nat} (hd : d < K) : B 3 d = nI (dF B d) ∧ B 4 d = nI (dT B d) ∧ dF B d < N ∧ dT B d < N := by
  obtain ⟨f, t, hf, ht, ef, et, -⟩ := R.de hd
  have hN := R.hN
  have a : dF B d = f := by rw [dF, ef, nI_clamp (by omega)]
  have b : dT B d = t := by rw [dT, et, nI_clamp (by omega)]
  rw [a, b]; exact ⟨ef, et, hf, ht⟩
theorem wod4 (R : Rel N K A B) (view : Int32) (y : Nat) : ∀ (k i : Nat) (v : Int32), i + k = K → (bi (k_widenedOverOneDoor_4 N K A view k i v) y = true ↔ bi v y = true ∨ ∃ d, i ≤ d ∧ d < K ∧ lit B d ∧ (bi view (dF B d) = true ∨ bi view (dT B d) = true) ∧ (dF B d = y ∨ dT B d = y)) := by
  have hN := R.hN
  have hK := R.hK
  intro k
  induction k with
  | zero => intro i v hi; exact ⟨Or.inl, fun h => h.elim id (fun ⟨d, h1, h2, _⟩ => by omega)⟩
  | succ k ih =>
    intro i v hi
    have hiK : i < K := by omega
    obtain ⟨d6, d7, -⟩ := R.dr hiK
    obtain ⟨e3, e4, hf, ht⟩ := d_ok R hiK
    rw [k_widenedOverOneDoor_4_S, nI_clamp (n := i) (by omega), d6, d7, e3, e4]
    by_cases c : k_doorLoss N K A (nI i) (2 : Int32) = (-1 : Int32)
    · rw [if_pos c, ih _ _ (by omega)]
      have nl : ¬ lit B i := fun q => (lit_k R hiK).mpr q c
      refine or_congr_right ⟨fun ⟨d, h1, h2, h3⟩ => ⟨d, by omega, h2, h3⟩, fun ⟨d, h1, h2, h3⟩ => ⟨d, ?_, h2, h3⟩⟩
      by_cases q : d = i
      · subst q; exact absurd h3.1 nl
      · omega
    · rw [if_neg c, ih _ _ (by omega), bi_or, ends_v (by omega) (by omega)]
      have yl : lit B i := (lit_k R hiK).mp c
      simp only [Bool.or_eq_true, Bool.and_eq_true, decide_eq_true_eq]
      constructor
      · rintro ((h | h) | ⟨d, h1, h2, h3⟩)
        · exact Or.inl h
        · exact Or.inr ⟨i, Nat.le_refl _, hiK, yl, h.1, h.2⟩
        · exact Or.inr ⟨d, by omega, h2, h3⟩
      · rintro (h | ⟨d, h1, h2, h3⟩)
        · exact Or.inl (Or.inl h)
        · by_cases q : d = i
          · subst q; exact Or.inl (Or.inr ⟨h3.2.1, h3.2.2⟩)
          · exact Or.inr ⟨d, by omega, h2, h3⟩
/-- seen from s: y -/
def vw (N K : Nat) (A B : Nat → Nat → Int32) (s y : Nat) : Prop := rc (El (ked N K A 0 0)) s y ∨ ∃ d, d < K ∧ lit B d ∧ ((rc (El (ked N K A 0 0)) s (dF B d) ∧ rc (El (ked N K A 0 0)) (dT B d) y) ∨ (rc (El (ked N K A 0 0)) s (dT B d) ∧ rc (El (ked N K A 0 0)) (dF B d) y))
theorem view_k (R : Rel N K A B) {who : Int32} {s y : Nat} (hs : s < N) (hy : y < N) (e : k_spaceOf N K A who = nI s) : bi (k_viewOf N K A who) y = true ↔ vw N K A B s y := by
  have hN := R.hN
  have w1 : ∀ z, z < N → (bi (k_widenedOverWalls N K A ((1 : Int32) <<< (nI s &&& 31))) z = true ↔ rc (El (ked N K A 0 0)) s z) := fun z hz => by
    rw [wow_rc R hz]
    constructor
    · rintro ⟨u, hu, h1, h2⟩
      rw [bi_one (by omega), decide_eq_true_eq] at h1
      rw [h1]; exact h2
    · intro h
      exact ⟨s, hs, by rw [bi_one (by omega)]; exact decide_eq_true rfl, h⟩
  rw [k_viewOf, e, if_neg (nI_m1 hN hs), wow_rc R hy, k_widenedOverOneDoor]
  constructor
  · rintro ⟨z, hz, h1, h2⟩
    rcases (wod4 R _ z K 0 _ (by omega)).mp h1 with h | ⟨d, -, hd, hl, h3, h4⟩
    · exact Or.inl (rc_tr ((w1 z hz).mp h) h2)
    · obtain ⟨-, -, hf, ht⟩ := d_ok R hd
      rw [w1 _ hf, w1 _ ht] at h3
      rcases h3 with h3 | h3 <;> rcases h4 with h4 | h4 <;> subst h4
      · exact Or.inl (rc_tr h3 h2)
      · exact Or.inr ⟨d, hd, hl, Or.inl ⟨h3, h2⟩⟩
      · exact Or.inr ⟨d, hd, hl, Or.inr ⟨h3, h2⟩⟩
      · exact Or.inl (rc_tr h3 h2)
  · rintro (h | ⟨d, hd, hl, ⟨h1, h2⟩ | ⟨h1, h2⟩⟩)
    · exact ⟨s, hs, (wod4 R _ s K 0 _ (by omega)).mpr (Or.inl ((w1 s hs).mpr (rc_rf s))), h⟩
    · obtain ⟨-, -, hf, ht⟩ := d_ok R hd
      exact ⟨_, ht, (wod4 R _ _ K 0 _ (by omega)).mpr (Or.inr ⟨d, by omega, hd, hl, Or.inl ((w1 _ hf).mpr h1), Or.inr rfl⟩), h2⟩
    · obtain ⟨-, -, hf, ht⟩ := d_ok R hd
      exact ⟨_, hf, (wod4 R _ _ K 0 _ (by omega)).mpr (Or.inr ⟨d, by omega, hd, hl, Or.inr ((w1 _ ht).mpr h1), Or.inl rfl⟩), h2⟩
end VW
