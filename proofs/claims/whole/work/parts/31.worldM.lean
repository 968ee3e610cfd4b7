/-! The reference's world: the object, its rows (B 0 sorts, B 1 holders, B 2 states, B 3 doorFrom, B 4 doorTo, B 5 doorOpen, B 6 doorClear; Q 0 wayOut, Q 1 wayIn, Q 2 losses, Q 3 byBoxes, Q 4 bright, Q 5 0 outs, Q 5 1 ins). -/
abbrev tM (cI cZ : ClassId) : List (ClassId × FieldType) := [(cI, .int), (cZ, .boolean)]
def wM (a : Nat → Nat) (cI cZ : ClassId) (n d : Int32) (B Q : Nat → Nat → Int32) : va_W :=
  [(a 0, .inr (1, [.int n, .ref (a 1), .ref (a 2), .ref (a 3), .int d, .ref (a 4), .ref (a 5), .ref (a 6), .ref (a 7), .int (Q 5 0), .int (Q 5 1), .ref (a 8), .ref (a 9), .ref (a 10), .ref (a 11), .ref (a 12)])),
   (a 1, .inl (cI, 30, .inl (B 0))), (a 2, .inl (cI, 30, .inl (B 1))), (a 3, .inl (cI, 120, .inl (B 2))),
   (a 4, .inl (cI, 10, .inl (B 3))), (a 5, .inl (cI, 10, .inl (B 4))), (a 6, .inl (cI, 10, .inl (B 5))), (a 7, .inl (cI, 10, .inl (B 6))),
   (a 8, .inl (cI, 30, .inl (Q 0))), (a 9, .inl (cI, 30, .inl (Q 1))), (a 10, .inl (cI, 900, .inl (Q 2))), (a 11, .inl (cZ, 900, .inl (Q 3))), (a 12, .inl (cZ, 30, .inl (Q 4)))]
theorem wM_D {Z : Nat → Prop} {a : Nat → Nat} {cI cZ cI' cZ' : ClassId} {n d n' d' : Int32} {B Q B' Q' : Nat → Nat → Int32} (h : va_D Z (wM a cI cZ n d B Q)) : va_D Z (wM a cI' cZ' n' d' B' Q') := by
  have key : ∀ (k : Nat) (q : Nat × va_E), (wM a cI' cZ' n' d' B' Q')[k]? = some q → ∃ e, (wM a cI cZ n d B Q)[k]? = some (q.1, e) := by
    intro k q hq
    match k, hq with
    | 0, hq => cases hq; exact ⟨_, rfl⟩
    | 1, hq => cases hq; exact ⟨_, rfl⟩
    | 2, hq => cases hq; exact ⟨_, rfl⟩
    | 3, hq => cases hq; exact ⟨_, rfl⟩
    | 4, hq => cases hq; exact ⟨_, rfl⟩
    | 5, hq => cases hq; exact ⟨_, rfl⟩
    | 6, hq => cases hq; exact ⟨_, rfl⟩
    | 7, hq => cases hq; exact ⟨_, rfl⟩
    | 8, hq => cases hq; exact ⟨_, rfl⟩
    | 9, hq => cases hq; exact ⟨_, rfl⟩
    | 10, hq => cases hq; exact ⟨_, rfl⟩
    | 11, hq => cases hq; exact ⟨_, rfl⟩
    | 12, hq => cases hq; exact ⟨_, rfl⟩
    | k + 13, hq => simp [wM] at hq
  refine ⟨fun i j p q hp hq e => ?_, fun k q hq => ?_⟩
  · obtain ⟨e1, h1⟩ := key i p hp
    obtain ⟨e2, h2⟩ := key j q hq
    exact h.1 i j _ _ h1 h2 e
  · obtain ⟨e1, h1⟩ := key k q hq
    exact h.2 k (q.1, e1) h1
theorem wM_s1 {a : Nat → Nat} {cI cZ : ClassId} {n d : Int32} {B Q : Nat → Nat → Int32} {i : Nat} {v : Int32} : (wM a cI cZ n d B Q).set 1 (a 1, .inl (cI, 30, .inl (upd (B 0) i v))) = wM a cI cZ n d (sU B 0 i v) Q := rfl
theorem wM_s2 {a : Nat → Nat} {cI cZ : ClassId} {n d : Int32} {B Q : Nat → Nat → Int32} {i : Nat} {v : Int32} : (wM a cI cZ n d B Q).set 2 (a 2, .inl (cI, 30, .inl (upd (B 1) i v))) = wM a cI cZ n d (sU B 1 i v) Q := rfl
theorem wM_s3 {a : Nat → Nat} {cI cZ : ClassId} {n d : Int32} {B Q : Nat → Nat → Int32} {i : Nat} {v : Int32} : (wM a cI cZ n d B Q).set 3 (a 3, .inl (cI, 120, .inl (upd (B 2) i v))) = wM a cI cZ n d (sU B 2 i v) Q := rfl
theorem wM_s4 {a : Nat → Nat} {cI cZ : ClassId} {n d : Int32} {B Q : Nat → Nat → Int32} {i : Nat} {v : Int32} : (wM a cI cZ n d B Q).set 4 (a 4, .inl (cI, 10, .inl (upd (B 3) i v))) = wM a cI cZ n d (sU B 3 i v) Q := rfl
theorem wM_s5 {a : Nat → Nat} {cI cZ : ClassId} {n d : Int32} {B Q : Nat → Nat → Int32} {i : Nat} {v : Int32} : (wM a cI cZ n d B Q).set 5 (a 5, .inl (cI, 10, .inl (upd (B 4) i v))) = wM a cI cZ n d (sU B 4 i v) Q := rfl
theorem wM_s6 {a : Nat → Nat} {cI cZ : ClassId} {n d : Int32} {B Q : Nat → Nat → Int32} {i : Nat} {v : Int32} : (wM a cI cZ n d B Q).set 6 (a 6, .inl (cI, 10, .inl (upd (B 5) i v))) = wM a cI cZ n d (sU B 5 i v) Q := rfl
theorem wM_s7 {a : Nat → Nat} {cI cZ : ClassId} {n d : Int32} {B Q : Nat → Nat → Int32} {i : Nat} {v : Int32} : (wM a cI cZ n d B Q).set 7 (a 7, .inl (cI, 10, .inl (upd (B 6) i v))) = wM a cI cZ n d (sU B 6 i v) Q := rfl
theorem wM_s8 {a : Nat → Nat} {cI cZ : ClassId} {n d : Int32} {B Q : Nat → Nat → Int32} {i : Nat} {v : Int32} : (wM a cI cZ n d B Q).set 8 (a 8, .inl (cI, 30, .inl (upd (Q 0) i v))) = wM a cI cZ n d B (sU Q 0 i v) := rfl
theorem wM_s9 {a : Nat → Nat} {cI cZ : ClassId} {n d : Int32} {B Q : Nat → Nat → Int32} {i : Nat} {v : Int32} : (wM a cI cZ n d B Q).set 9 (a 9, .inl (cI, 30, .inl (upd (Q 1) i v))) = wM a cI cZ n d B (sU Q 1 i v) := rfl
theorem wM_s10 {a : Nat → Nat} {cI cZ : ClassId} {n d : Int32} {B Q : Nat → Nat → Int32} {i : Nat} {v : Int32} : (wM a cI cZ n d B Q).set 10 (a 10, .inl (cI, 900, .inl (upd (Q 2) i v))) = wM a cI cZ n d B (sU Q 2 i v) := rfl
theorem wM_s11 {a : Nat → Nat} {cI cZ : ClassId} {n d : Int32} {B Q : Nat → Nat → Int32} {i : Nat} {v : Int32} : (wM a cI cZ n d B Q).set 11 (a 11, .inl (cZ, 900, .inl (upd (Q 3) i v))) = wM a cI cZ n d B (sU Q 3 i v) := rfl
theorem wM_s12 {a : Nat → Nat} {cI cZ : ClassId} {n d : Int32} {B Q : Nat → Nat → Int32} {i : Nat} {v : Int32} : (wM a cI cZ n d B Q).set 12 (a 12, .inl (cZ, 30, .inl (upd (Q 4) i v))) = wM a cI cZ n d B (sU Q 4 i v) := rfl
section XM
variable {p : Program} {l : Launch} {e : Env} {R : Room} {s : State} {m : MethodId} {args : Array Value} {below : List Frame} {meth : Method} {c : Code} {H H0 : Heap} {locs : List Loc} {cells slots : Nat} {Q : State → Prop}
variable {cc : ByteArray} {pc : Nat} {ls : Array Slot} {rest : List Value} {D : va_G} {cl : List vw_C} {A : Nat → Prop} {a : Nat} {tys : List (ClassId × FieldType)} {ws : va_W}
theorem x_imulN {x y : Int32} (i j : Nat) (ei : x = nI i) (ej : y = nI j) (hx : p.tables.exec = Jvm.exec) (hb : c.code = cc) (hdg : decode cc pc = .ok (.imul, 1)) (kk : W p l e R s m args below meth c H locs cells slots Q (F0 m (pc + 1) ls (.int (nI (i * j)) :: rest))) : W p l e R s m args below meth c H locs cells slots Q (F0 m pc ls (.int y :: .int x :: rest)) :=
  lv_imul hx hb hdg (by rw [ei, ej, pk_mul]; exact kk)
theorem x_iaddN {x y : Int32} (i j : Nat) (ei : x = nI i) (ej : y = nI j) (hx : p.tables.exec = Jvm.exec) (hb : c.code = cc) (hdg : decode cc pc = .ok (.iadd, 1)) (kk : W p l e R s m args below meth c H locs cells slots Q (F0 m (pc + 1) ls (.int (nI (i + j)) :: rest))) : W p l e R s m args below meth c H locs cells slots Q (F0 m pc ls (.int y :: .int x :: rest)) :=
  lv_iadd hx hb hdg (by rw [ei, ej, nI_add]; exact kk)
theorem x_ialdN (hx : p.tables.exec = Jvm.exec) (hb : c.code = cc) (hK : va_K D cl tys s) (hP : va_P D cl ws H) (q0 t0 : Nat) {cA : ClassId} {n : Nat} {f : Nat → Int32} (ha : ws[q0]? = some (a, .inl (cA, n, .inl f))) (ht : tys[t0]? = some (cA, .int)) {i : Nat} (hi : i < n) (hn : n < 2 ^ 31) (hdg : decode cc pc = .ok (.iaload, 1))
    (kk : W p l e R s m args below meth c H locs cells slots Q (F0 m (pc + 1) ls (.int (f i) :: rest))) : W p l e R s m args below meth c H locs cells slots Q (F0 m pc ls (.int (nI i) :: .ref a :: rest)) :=
  va_iald hx hb hK hP q0 t0 ha ht (vp_in_nI hi hn) hdg (by rw [nI_clamp (Nat.lt_trans hi hn)]; exact kk)
theorem x_zaldN (hx : p.tables.exec = Jvm.exec) (hb : c.code = cc) (hK : va_K D cl tys s) (hP : va_P D cl ws H) (q0 t0 : Nat) {cA : ClassId} {n : Nat} {f : Nat → Int32} (ha : ws[q0]? = some (a, .inl (cA, n, .inl f))) (ht : tys[t0]? = some (cA, .boolean)) {i : Nat} (hi : i < n) (hn : n < 2 ^ 31) (hdg : decode cc pc = .ok (.baload, 1))
    (kk : W p l e R s m args below meth c H locs cells slots Q (F0 m (pc + 1) ls (.int (f i) :: rest))) : W p l e R s m args below meth c H locs cells slots Q (F0 m pc ls (.int (nI i) :: .ref a :: rest)) :=
  va_zald hx hb hK hP q0 t0 ha ht (vp_in_nI hi hn) hdg (by rw [nI_clamp (Nat.lt_trans hi hn)]; exact kk)
theorem x_iastN (hx : p.tables.exec = Jvm.exec) (hb : c.code = cc) (hK : va_K D cl tys s) (hP : va_P D cl ws H) (hD : va_D A ws) (hS : va_S A H0 H locs) (q0 t0 : Nat) {cA : ClassId} {n : Nat} {f : Nat → Int32} (ha : ws[q0]? = some (a, .inl (cA, n, .inl f))) (ht : tys[t0]? = some (cA, .int)) {i : Nat} {x : Int32} (hi : i < n) (hn : n < 2 ^ 31) (hdg : decode cc pc = .ok (.iastore, 1))
    (kk : ∀ (H1 : Heap) (locs1 : List Loc), va_P D cl (ws.set q0 (a, .inl (cA, n, .inl (upd f i x)))) H1 → va_D A (ws.set q0 (a, .inl (cA, n, .inl (upd f i x)))) → va_S A H0 H1 locs1 → W p l e R s m args below meth c H1 locs1 cells slots Q (F0 m (pc + 1) ls rest)) : W p l e R s m args below meth c H locs cells slots Q (F0 m pc ls (.int x :: .int (nI i) :: .ref a :: rest)) :=
  va_iast hx hb hK hP hD hS q0 t0 ha ht (vp_in_nI hi hn) hdg (by rw [nI_clamp (Nat.lt_trans hi hn)]; exact kk)
theorem x_zastN (hx : p.tables.exec = Jvm.exec) (hb : c.code = cc) (hK : va_K D cl tys s) (hP : va_P D cl ws H) (hD : va_D A ws) (hS : va_S A H0 H locs) (q0 t0 : Nat) {cA : ClassId} {n : Nat} {f : Nat → Int32} (ha : ws[q0]? = some (a, .inl (cA, n, .inl f))) (ht : tys[t0]? = some (cA, .boolean)) {i : Nat} {x : Int32} (hi : i < n) (hn : n < 2 ^ 31) (hz : vp_nar .boolean x = x) (hdg : decode cc pc = .ok (.bastore, 1))
    (kk : ∀ (H1 : Heap) (locs1 : List Loc), va_P D cl (ws.set q0 (a, .inl (cA, n, .inl (upd f i x)))) H1 → va_D A (ws.set q0 (a, .inl (cA, n, .inl (upd f i x)))) → va_S A H0 H1 locs1 → W p l e R s m args below meth c H1 locs1 cells slots Q (F0 m (pc + 1) ls rest)) : W p l e R s m args below meth c H locs cells slots Q (F0 m pc ls (.int x :: .int (nI i) :: .ref a :: rest)) :=
  va_zast hx hb hK hP hD hS q0 t0 ha ht (vp_in_nI hi hn) hdg (by rw [nI_clamp (Nat.lt_trans hi hn), hz]; exact kk)
end XM
/-! Numbers of things and doors; chains of holders. -/
def ch (N : Nat) (f : Nat → Int32) : Nat → Int32 → Prop
  | 0, v => v = (-1 : Int32)
  | k + 1, v => v = (-1 : Int32) ∨ ∃ j : Nat, j < N ∧ v = nI j ∧ ch N f k (f j)
def chp (N : Nat) (f : Nat → Int32) (k : Nat) (v : Int32) : Prop := 1 ≤ k ∧ ch N f (k - 1) v
def chs (N : Nat) (B : Nat → Nat → Int32) : Prop := ∀ j, j < N → chp N (B 1) 30 (B 1 j)
def drM (N K : Nat) (B : Nat → Nat → Int32) : Prop := ∀ d, d < K → (∃ j : Nat, j < N ∧ B 3 d = nI j) ∧ ∃ j : Nat, j < N ∧ B 4 d = nI j
section CH
variable {N K k : Nat} {f : Nat → Int32} {v x y t : Int32} {B Q : Nat → Nat → Int32}
theorem chp_0 : ¬ chp N f 0 v := fun h => by have := h.1; omega
theorem chp_dec (h : chp N f (k + 1) v) (hv : ¬ v = (-1 : Int32)) : ∃ j : Nat, j < N ∧ v = nI j ∧ chp N f k (f j) := by
  obtain ⟨-, h⟩ := h
  have h : ch N f k v := h
  cases k with
  | zero => exact absurd h hv
  | succ k =>
    rcases h with h | ⟨j, h1, h2, h3⟩
    · exact absurd h hv
    · exact ⟨j, h1, h2, by omega, h3⟩
theorem chp_j (h : chp N f (k + 1) v) (hv : ¬ v = (-1 : Int32)) : ∃ j : Nat, j < N ∧ v = nI j := by
  obtain ⟨j, h1, h2, -⟩ := chp_dec h hv
  exact ⟨j, h1, h2⟩
theorem th_in (hN : N ≤ 30) (h : ∃ j : Nat, j < N ∧ x = nI j) : vp_in x 30 := by
  obtain ⟨j, h1, rfl⟩ := h
  exact vp_in_nI (by omega) (by omega)
theorem dr_in (hK : K ≤ 10) (h : ∃ j : Nat, j < K ∧ x = nI j) : vp_in x 10 := by
  obtain ⟨j, h1, rfl⟩ := h
  exact vp_in_nI (by omega) (by omega)
theorem chp_in (hN : N ≤ 30) (h : chp N f (k + 1) v) (hv : ¬ v = (-1 : Int32)) : vp_in v 30 := th_in hN (chp_j h hv)
theorem chp_next (hN : N ≤ 30) (h : chp N f (k + 1) v) (hv : ¬ v = (-1 : Int32)) : chp N f k (f v.toNatClampNeg) := by
  obtain ⟨j, h1, h2, h3⟩ := chp_dec h hv
  rw [h2, nI_clamp (by omega)]
  exact h3
theorem chs_at (hN : N ≤ 30) (hC : chs N B) (h : ∃ j : Nat, j < N ∧ x = nI j) : chp N (B 1) 30 (B 1 x.toNatClampNeg) := by
  obtain ⟨j, h1, rfl⟩ := h
  rw [nI_clamp (by omega)]
  exact hC j h1
theorem chp_th (hC : chs N B) (h : ∃ j : Nat, j < N ∧ x = nI j) : chp N (B 1) 31 x := by
  obtain ⟨j, h1, rfl⟩ := h
  exact ⟨by omega, Or.inr ⟨j, h1, rfl, (hC j h1).2⟩⟩
theorem hol_j (hN : N ≤ 30) (hC : chs N B) (h : ∃ j : Nat, j < N ∧ x = nI j) (hv : ¬ B 1 x.toNatClampNeg = (-1 : Int32)) : ∃ j : Nat, j < N ∧ B 1 x.toNatClampNeg = nI j := chp_j (chs_at hN hC h) hv
theorem dr3_i (hDr : drM N K B) {i : Nat} (h : i < K) : ∃ j : Nat, j < N ∧ B 3 i = nI j := (hDr i h).1
theorem dr4_i (hDr : drM N K B) {i : Nat} (h : i < K) : ∃ j : Nat, j < N ∧ B 4 i = nI j := (hDr i h).2
theorem dr3_j (hK : K ≤ 10) (hDr : drM N K B) (h : ∃ j : Nat, j < K ∧ x = nI j) : ∃ j : Nat, j < N ∧ B 3 x.toNatClampNeg = nI j := by
  obtain ⟨j, h1, rfl⟩ := h
  rw [nI_clamp (by omega)]
  exact (hDr j h1).1
theorem dr4_j (hK : K ≤ 10) (hDr : drM N K B) (h : ∃ j : Nat, j < K ∧ x = nI j) : ∃ j : Nat, j < N ∧ B 4 x.toNatClampNeg = nI j := by
  obtain ⟨j, h1, rfl⟩ := h
  rw [nI_clamp (by omega)]
  exact (hDr j h1).2
theorem st0_in (hN : N ≤ 30) (h : ∃ j : Nat, j < N ∧ x = nI j) : vp_in ((4 : Int32) * x) 120 := by
  obtain ⟨j, h1, rfl⟩ := h
  rw [show (4 : Int32) = nI 4 from rfl, pk_mul]
  exact vp_in_nI (by omega) (by omega)
theorem st_in (hN : N ≤ 30) (h : ∃ j : Nat, j < N ∧ x = nI j) (hw : ∃ k : Nat, k < 4 ∧ y = nI k) : vp_in (((4 : Int32) * x) + y) 120 := by
  obtain ⟨j, h1, rfl⟩ := h
  obtain ⟨k, h2, rfl⟩ := hw
  rw [show (4 : Int32) = nI 4 from rfl, pk_mul, nI_add]
  exact vp_in_nI (by omega) (by omega)
theorem stk_in (hN : N ≤ 30) (h : ∃ j : Nat, j < N ∧ x = nI j) (k : Nat) (hk : k < 4) (e : y = nI k) : vp_in (((4 : Int32) * x) + y) 120 := st_in hN h ⟨k, hk, e⟩
theorem st2_in {i : Nat} (hN : N ≤ 30) (hi : i < N) (hw : ∃ k : Nat, k < 2 ∧ y = nI k) : vp_in ((nI ((4 * i) + 2)) + y) 120 := by
  obtain ⟨k, h2, rfl⟩ := hw
  rw [nI_add]
  exact vp_in_nI (by omega) (by omega)
theorem st5_in (hN : N ≤ 30) (h : ∃ j : Nat, j < N ∧ x = nI j) (hw : ∃ k : Nat, 5 ≤ k ∧ k ≤ 8 ∧ y = nI k) : vp_in ((((4 : Int32) * x) + y) - (5 : Int32)) 120 := by
  obtain ⟨j, h1, rfl⟩ := h
  obtain ⟨k, h2, h3, rfl⟩ := hw
  rw [show (4 : Int32) = nI 4 from rfl, pk_mul, nI_add, show (5 : Int32) = nI 5 from rfl, pk_sub (by omega)]
  exact vp_in_nI (by omega) (by omega)
theorem ls_in (hN : N ≤ 30) (h : ∃ j : Nat, j < N ∧ x = nI j) (h2 : ∃ j : Nat, j < N ∧ y = nI j) : vp_in (((30 : Int32) * x) + y) 900 := by
  obtain ⟨j, h1, rfl⟩ := h
  obtain ⟨k, h2, rfl⟩ := h2
  rw [show (30 : Int32) = nI 30 from rfl, pk_mul, nI_add]
  exact vp_in_nI (by omega) (by omega)
theorem ls2_in {i : Nat} (hN : N ≤ 30) (hi : i < N) (h2 : ∃ j : Nat, j < N ∧ y = nI j) : vp_in ((nI (30 * i)) + y) 900 := by
  obtain ⟨k, h2, rfl⟩ := h2
  rw [nI_add]
  exact vp_in_nI (by omega) (by omega)
theorem lt30 (hN : N ≤ 30) (h : ¬ nI N = (30 : Int32)) : N < 30 := by
  rcases Nat.lt_or_ge N 30 with q | q
  · exact q
  · exact absurd (by rw [show N = 30 by omega]; rfl) h
theorem lt10 (hK : K ≤ 10) (h : ¬ nI K = (10 : Int32)) : K < 10 := by
  rcases Nat.lt_or_ge K 10 with q | q
  · exact q
  · exact absurd (by rw [show K = 10 by omega]; rfl) h
end CH
def dI (k : Nat) : Int32 := nI k - 1
theorem dI_S (k : Nat) : dI (k + 1) = nI k := nI_pred k
theorem dI_0 : dI 0 < (0 : Int32) := by decide
theorem dI_step (k : Nat) : nI k + Int32.ofInt (-1) = dI k := by
  rw [dI, Int32.sub_eq_add_neg]
  rfl
theorem dI_of {x : Int32} {k : Nat} (h : x = nI k) : x - (1 : Int32) = dI k := by rw [h]; rfl
def hit (N : Nat) (f : Nat → Int32) : Nat → Int32 → Int32 → Prop
  | 0, _, _ => False
  | k + 1, v, t => v = t ∨ ∃ j : Nat, j < N ∧ v = nI j ∧ hit N f k (f j) t
section HI
variable {N K k : Nat} {f : Nat → Int32} {v x y t : Int32} {B Q : Nat → Nat → Int32}
theorem hit_0 : ¬ hit N f 0 v t := fun h => h
theorem hit_rf : hit N f (k + 1) v v := Or.inl rfl
theorem hit_j (h : hit N f (k + 1) v t) (hv : ¬ v = t) : ∃ j : Nat, j < N ∧ v = nI j := by
  rcases h with h | ⟨j, h1, h2, -⟩
  · exact absurd h hv
  · exact ⟨j, h1, h2⟩
theorem hit_next (hN : N ≤ 30) (h : hit N f (k + 1) v t) (hv : ¬ v = t) : hit N f k (f v.toNatClampNeg) t := by
  rcases h with h | ⟨j, h1, h2, h3⟩
  · exact absurd h hv
  · rw [h2, nI_clamp (by omega)]
    exact h3
def fwO (Q : Nat → Nat → Int32) (k : Nat) : Prop := ∃ o : Nat, Q 5 0 = nI o ∧ o + k ≤ 31
def fwI (Q : Nat → Nat → Int32) (k : Nat) : Prop := ∃ o : Nat, Q 5 1 = nI o ∧ o + k ≤ 31
theorem fwO_0 (h : Q 5 0 = nI 0) : fwO Q 31 := ⟨0, h, by omega⟩
theorem fwI_0 (h : Q 5 1 = (0 : Int32)) : fwI Q 31 := ⟨0, h, by omega⟩
theorem fwO_keep (h : fwO Q (k + 1)) : fwO Q k := by
  obtain ⟨o, h1, h2⟩ := h
  exact ⟨o, h1, by omega⟩
theorem fwO_up {Q' : Nat → Nat → Int32} (h : fwO Q (k + 1)) (e : Q' 5 0 = Q 5 0 + (1 : Int32)) : fwO Q' k := by
  obtain ⟨o, h1, h2⟩ := h
  exact ⟨o + 1, by rw [e, h1, nI_1], by omega⟩
theorem fwI_up {Q' : Nat → Nat → Int32} (h : fwI Q (k + 1)) (e : Q' 5 1 = Q 5 1 + (1 : Int32)) : fwI Q' k := by
  obtain ⟨o, h1, h2⟩ := h
  exact ⟨o + 1, by rw [e, h1, nI_1], by omega⟩
theorem fw_in (h : chp N f (k + 1) v) (h2 : fwO Q (k + 1)) (hv : ¬ v = (-1 : Int32)) : vp_in (Q 5 0) 30 := by
  obtain ⟨j, -, -, h3⟩ := chp_dec h hv
  have := h3.1
  obtain ⟨o, h1, h2⟩ := h2
  rw [h1]
  exact vp_in_nI (by omega) (by omega)
theorem fi_in (h : hit N f (k + 1) v t) (h2 : fwI Q (k + 1)) (hv : ¬ v = t) : vp_in (Q 5 1) 30 := by
  rcases h with h | ⟨j, -, -, h3⟩
  · exact absurd h hv
  · cases k with
    | zero => exact absurd h3 hit_0
    | succ k =>
      obtain ⟨o, h1, h2⟩ := h2
      rw [h1]
      exact vp_in_nI (by omega) (by omega)
end HI
theorem v_M_in : okS R_M 51 y_M_in b_M_in 3 (some .boolean) 3 := ⟨⟨q_ml_M_51, q_code_M_in, q_ini_M, by decide +kernel⟩, q_st_M_in⟩
theorem v_M_isThing : okV R_M R_M 55 y_M_isThing b_M_isThing 2 (some .boolean) 1 := ⟨⟨q_ml_M_55, q_code_M_isThing, q_ini_M, by decide +kernel⟩, q_im_M_isThing, q_sel_M_isThing⟩
theorem v_M_isOf : okV R_M R_M 59 y_M_isOf b_M_isOf 3 (some .boolean) 2 := ⟨⟨q_ml_M_59, q_code_M_isOf, q_ini_M, by decide +kernel⟩, q_im_M_isOf, q_sel_M_isOf⟩
theorem v_M_isSpace : okV R_M R_M 95 y_M_isSpace b_M_isSpace 2 (some .boolean) 1 := ⟨⟨q_ml_M_95, q_code_M_isSpace, q_ini_M, by decide +kernel⟩, q_im_M_isSpace, q_sel_M_isSpace⟩
theorem v_M_isDoor : okV R_M R_M 76 y_M_isDoor b_M_isDoor 2 (some .boolean) 1 := ⟨⟨q_ml_M_76, q_code_M_isDoor, q_ini_M, by decide +kernel⟩, q_im_M_isDoor, q_sel_M_isDoor⟩
theorem v_M_isWithin : okV R_M R_M 70 y_M_isWithin b_M_isWithin 4 (some .boolean) 2 := ⟨⟨q_ml_M_70, q_code_M_isWithin, q_ini_M, by decide +kernel⟩, q_im_M_isWithin, q_sel_M_isWithin⟩
theorem v_M_heldBy : okV R_M R_M 66 y_M_heldBy b_M_heldBy 4 (some .int) 1 := ⟨⟨q_ml_M_66, q_code_M_heldBy, q_ini_M, by decide +kernel⟩, q_im_M_heldBy, q_sel_M_heldBy⟩
theorem v_M_hasRoom : okV R_M R_M 73 y_M_hasRoom b_M_hasRoom 2 (some .boolean) 1 := ⟨⟨q_ml_M_73, q_code_M_hasRoom, q_ini_M, by decide +kernel⟩, q_im_M_hasRoom, q_sel_M_hasRoom⟩
theorem v_M_findWay : okV R_M R_M 88 y_M_findWay b_M_findWay 5 (some .boolean) 2 := ⟨⟨q_ml_M_88, q_code_M_findWay, q_ini_M, by decide +kernel⟩, q_im_M_findWay, q_sel_M_findWay⟩
theorem v_M_isShut : okV R_M R_M 85 y_M_isShut b_M_isShut 2 (some .boolean) 1 := ⟨⟨q_ml_M_85, q_code_M_isShut, q_ini_M, by decide +kernel⟩, q_im_M_isShut, q_sel_M_isShut⟩
theorem v_M_firstBarrier : okV R_M R_M 91 y_M_firstBarrier b_M_firstBarrier 2 (some .int) 0 := ⟨⟨q_ml_M_91, q_code_M_firstBarrier, q_ini_M, by decide +kernel⟩, q_im_M_firstBarrier, q_sel_M_firstBarrier⟩
theorem v_M_isReached : okV R_M R_M 126 y_M_isReached b_M_isReached 3 (some .boolean) 2 := ⟨⟨q_ml_M_126, q_code_M_isReached, q_ini_M, by decide +kernel⟩, q_im_M_isReached, q_sel_M_isReached⟩
theorem v_M_spaceOf : okV R_M R_M 98 y_M_spaceOf b_M_spaceOf 3 (some .int) 1 := ⟨⟨q_ml_M_98, q_code_M_spaceOf, q_ini_M, by decide +kernel⟩, q_im_M_spaceOf, q_sel_M_spaceOf⟩
theorem v_M_joins : okV R_M R_M 105 y_M_joins b_M_joins 4 none 3 := ⟨⟨q_ml_M_105, q_code_M_joins, q_ini_M, by decide +kernel⟩, q_im_M_joins, q_sel_M_joins⟩
theorem v_M_lossOf : okS R_M 101 y_M_lossOf b_M_lossOf 4 (some .int) 4 := ⟨⟨q_ml_M_101, q_code_M_lossOf, q_ini_M, by decide +kernel⟩, q_st_M_lossOf⟩
theorem v_M_findLosses : okV R_M R_M 109 y_M_findLosses b_M_findLosses 7 none 2 := ⟨⟨q_ml_M_109, q_code_M_findLosses, q_ini_M, by decide +kernel⟩, q_im_M_findLosses, q_sel_M_findLosses⟩
theorem v_M_greatest : okV R_M R_M 113 y_M_greatest b_M_greatest 7 (some .int) 2 := ⟨⟨q_ml_M_113, q_code_M_greatest, q_ini_M, by decide +kernel⟩, q_im_M_greatest, q_sel_M_greatest⟩
theorem v_M_looks : okV R_M R_M 120 y_M_looks b_M_looks 2 none 0 := ⟨⟨q_ml_M_120, q_code_M_looks, q_ini_M, by decide +kernel⟩, q_im_M_looks, q_sel_M_looks⟩
theorem v_M_passes : okV R_M R_M 117 y_M_passes b_M_passes 8 (some .boolean) 2 := ⟨⟨q_ml_M_117, q_code_M_passes, q_ini_M, by decide +kernel⟩, q_im_M_passes, q_sel_M_passes⟩
theorem v_M_isSeen : okV R_M R_M 123 y_M_isSeen b_M_isSeen 5 (some .boolean) 2 := ⟨⟨q_ml_M_123, q_code_M_isSeen, q_ini_M, by decide +kernel⟩, q_im_M_isSeen, q_sel_M_isSeen⟩
