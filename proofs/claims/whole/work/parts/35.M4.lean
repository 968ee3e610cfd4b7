def m_findLosses_13 (N : Nat) (K : Nat) (B : Nat → Nat → Int32) (m3 : Nat) : Nat → Nat → (Nat → Nat → Int32) → (Nat → Nat → Int32)
  | 0, i, Q1 => Q1
  | k + 1, i, Q1 => (if (nI m3) = (nI i) then m_findLosses_13 N K B m3 k (i + 1) (sU Q1 2 ((30 * m3) + i) (0 : Int32)) else m_findLosses_13 N K B m3 k (i + 1) (sU Q1 2 ((30 * m3) + i) (1000 : Int32)))
theorem m_findLosses_13_0 (N : Nat) (K : Nat) (B : Nat → Nat → Int32) (m3 : Nat) (i : Nat) (Q1 : (Nat → Nat → Int32)) : m_findLosses_13 N K B m3 0 i Q1 = Q1 := rfl
theorem m_findLosses_13_S (N : Nat) (K : Nat) (B : Nat → Nat → Int32) (m3 : Nat) (k : Nat) (i : Nat) (Q1 : (Nat → Nat → Int32)) : m_findLosses_13 N K B m3 (k + 1) i Q1 = (if (nI m3) = (nI i) then m_findLosses_13 N K B m3 k (i + 1) (sU Q1 2 ((30 * m3) + i) (0 : Int32)) else m_findLosses_13 N K B m3 k (i + 1) (sU Q1 2 ((30 * m3) + i) (1000 : Int32))) := rfl
set_option maxHeartbeats 4000000 in
set_option maxRecDepth 100000 in
theorem wm_findLosses_13 (l : Launch) (D : va_G) (a : Nat → Nat) (cI cZ : ClassId) (N K : Nat) (B Q : Nat → Nat → Int32) (hN : N ≤ 30) (hKK : K ≤ 10) (hC : chs N B) (hDr : drM N K B) (Z : Nat → Prop) (what : Int32) (wd : Int32) (m3 : Nat) (hm3 : m3 < N) {p : Program} {e : Env} {s : State} {m : MethodId} {below : List Frame} {meth : Method} {c : Code} {Q0 : State → Prop} (Sx : CallFix p m c b_M_findLosses 7 s ([.ref (a 0), .int what, .int wd] : List Value).toArray BW R_M) (hD : va_D Z (wM a cI cZ (nI N) (nI K) B Q)) (hK : va_K D classes (tM cI cZ) s) : ∀ (k i : Nat), i + k = N → ∀ (Q1 : (Nat → Nat → Int32)) (H : Heap) (locs : List Loc) (ls : Array Slot), va_P D classes (wM a cI cZ (nI N) (nI K) B Q1) H → va_S Z s.heap H locs → lv_has ls 7 [(0, .ref (a 0)), (1, .int what), (2, .int wd), (3, .int (nI m3)), (4, .int (nI i))] → (∀ (H : Heap) (locs : List Loc) (ls : Array Slot), va_P D classes (wM a cI cZ (nI N) (nI K) B (m_findLosses_13 N K B m3 k i Q1)) H → va_S Z s.heap H locs → lv_has ls 7 [(0, .ref (a 0)), (1, .int what), (2, .int wd), (3, .int (nI m3))] → W p l e ({ frames := 5, cells := 0, slots := 0, locals := 108 } : Room) s m ([.ref (a 0), .int what, .int wd] : List Value).toArray below meth c H locs 0 0 Q0 (F0 m 53 ls [])) → W p l e ({ frames := 5, cells := 0, slots := 0, locals := 108 } : Room) s m ([.ref (a 0), .int what, .int wd] : List Value).toArray below meth c H locs 0 0 Q0 (F0 m 13 ls []) := by
  obtain ⟨hx, hb, hml, hown, hts⟩ := id Sx
  intro k
  induction k with
  | zero =>
    intro i hi Q1 H locs ls hP hS hl hk
    refine lv_iload hx hb d_M_findLosses_13 (lv_at hl 4 rfl) ?_
    refine lv_aload_n hx hb d_M_findLosses_15 rfl (lv_at hl 0 rfl) ?_
    refine va_get (D := D) (ci := 1) (v := .int (nI N)) (C := R_M) (T := F_M) (N := 16) hx hb hts i_M hown hK hP 0 rfl rfl 0 (by decide) (hts _ fl_M_47) (fun _ h9 => h9) rfl d_M_findLosses_16 ?_
    refine lv_icmp_ge (tgt := 53) hx hb d_M_findLosses_19 (by decide) (fun c_19 => ?_) (fun c_19 => absurd (nI_le (a := N) (b := i) (by omega) (by omega)) c_19)
    have e_b : m_findLosses_13 N K B m3 0 i Q1 = Q1 := by rw [m_findLosses_13_0]
    rw [e_b] at hk
    exact hk _ _ ls hP hS (lv_sub hl [0, 1, 2, 3] rfl)
  | succ k ih =>
    intro i hi Q1 H locs ls hP hS hl hk
    refine lv_iload hx hb d_M_findLosses_13 (lv_at hl 4 rfl) ?_
    refine lv_aload_n hx hb d_M_findLosses_15 rfl (lv_at hl 0 rfl) ?_
    refine va_get (D := D) (ci := 1) (v := .int (nI N)) (C := R_M) (T := F_M) (N := 16) hx hb hts i_M hown hK hP 0 rfl rfl 0 (by decide) (hts _ fl_M_47) (fun _ h9 => h9) rfl d_M_findLosses_16 ?_
    refine lv_icmp_ge (tgt := 53) hx hb d_M_findLosses_19 (by decide) (fun c_19 => absurd c_19 (nI_ge (a := i) (b := N) (by omega) (by omega))) (fun c_19 => ?_)
    refine lv_aload_n hx hb d_M_findLosses_22 rfl (lv_at hl 0 rfl) ?_
    refine va_get (D := D) (ci := 1) (v := .ref (a 10)) (C := R_M) (T := F_M) (N := 16) hx hb hts i_M hown hK hP 0 rfl rfl 13 (by decide) (hts _ fl_M_37) (fun _ h9 => h9) rfl d_M_findLosses_23 ?_
    refine lv_bipush (v := (30 : Int32)) hx hb d_M_findLosses_26 (by decide) ?_
    refine lv_iload_n hx hb d_M_findLosses_28 rfl (lv_at hl 3 rfl) ?_
    refine x_imulN 30 m3 rfl rfl hx hb d_M_findLosses_29 ?_
    refine lv_iload hx hb d_M_findLosses_30 (lv_at hl 4 rfl) ?_
    refine x_iaddN (30 * m3) i rfl rfl hx hb d_M_findLosses_32 ?_
    refine lv_iload_n hx hb d_M_findLosses_33 rfl (lv_at hl 3 rfl) ?_
    refine lv_iload hx hb d_M_findLosses_34 (lv_at hl 4 rfl) ?_
    refine lv_icmp_ne (tgt := 43) hx hb d_M_findLosses_36 (by decide) (fun c_36 => ?_) (fun c_36 => ?_)
    · refine lv_sipush (v := (1000 : Int32)) hx hb d_M_findLosses_43 (by decide) ?_
      refine x_iastN (n := 900) hx hb hK hP (wM_D hD) hS 10 0 rfl rfl (by omega) (by omega) d_M_findLosses_46 (fun H locs hP _ hS => ?_)
      have hP : va_P D classes (wM a cI cZ (nI N) (nI K) B (sU Q1 2 ((30 * m3) + i) (1000 : Int32))) H := by have h9 := hP; rw [wM_s10] at h9; exact h9
      refine lv_iinc (v := nI (i + 1)) (lv' := [(4, .int (nI (i + 1))), (0, .ref (a 0)), (1, .int what), (2, .int wd), (3, .int (nI m3))]) hx hb d_M_findLosses_47 hl (k := 4) rfl (nI_1 i) (by decide) rfl (fun ls hl => ?_)
      refine lv_goto (tgt := 13) hx hb d_M_findLosses_50 (by decide) ?_
      have e_b : m_findLosses_13 N K B m3 (k + 1) i Q1 = m_findLosses_13 N K B m3 k (i + 1) (sU Q1 2 ((30 * m3) + i) (1000 : Int32)) := by rw [m_findLosses_13_S, if_neg c_36]
      rw [e_b] at hk
      exact ih (i + 1) (by omega) (sU Q1 2 ((30 * m3) + i) (1000 : Int32)) _ _ ls hP hS (lv_sub hl [1, 2, 3, 4, 0] rfl) hk
    · refine lv_iconst (v := (0 : Int32)) hx hb d_M_findLosses_39 (by decide) ?_
      refine lv_goto (tgt := 46) hx hb d_M_findLosses_40 (by decide) ?_
      refine x_iastN (n := 900) hx hb hK hP (wM_D hD) hS 10 0 rfl rfl (by omega) (by omega) d_M_findLosses_46 (fun H locs hP _ hS => ?_)
      have hP : va_P D classes (wM a cI cZ (nI N) (nI K) B (sU Q1 2 ((30 * m3) + i) (0 : Int32))) H := by have h9 := hP; rw [wM_s10] at h9; exact h9
      refine lv_iinc (v := nI (i + 1)) (lv' := [(4, .int (nI (i + 1))), (0, .ref (a 0)), (1, .int what), (2, .int wd), (3, .int (nI m3))]) hx hb d_M_findLosses_47 hl (k := 4) rfl (nI_1 i) (by decide) rfl (fun ls hl => ?_)
      refine lv_goto (tgt := 13) hx hb d_M_findLosses_50 (by decide) ?_
      have e_b : m_findLosses_13 N K B m3 (k + 1) i Q1 = m_findLosses_13 N K B m3 k (i + 1) (sU Q1 2 ((30 * m3) + i) (0 : Int32)) := by rw [m_findLosses_13_S, if_pos c_36]
      rw [e_b] at hk
      exact ih (i + 1) (by omega) (sU Q1 2 ((30 * m3) + i) (0 : Int32)) _ _ ls hP hS (lv_sub hl [1, 2, 3, 4, 0] rfl) hk
def m_findLosses_2 (N : Nat) (K : Nat) (B : Nat → Nat → Int32) : Nat → Nat → (Nat → Nat → Int32) → (Nat → Nat → Int32)
  | 0, i, Q1 => Q1
  | k + 1, i, Q1 => m_findLosses_2 N K B k (i + 1) (m_findLosses_13 N K B i N 0 Q1)
theorem m_findLosses_2_0 (N : Nat) (K : Nat) (B : Nat → Nat → Int32) (i : Nat) (Q1 : (Nat → Nat → Int32)) : m_findLosses_2 N K B 0 i Q1 = Q1 := rfl
theorem m_findLosses_2_S (N : Nat) (K : Nat) (B : Nat → Nat → Int32) (k : Nat) (i : Nat) (Q1 : (Nat → Nat → Int32)) : m_findLosses_2 N K B (k + 1) i Q1 = m_findLosses_2 N K B k (i + 1) (m_findLosses_13 N K B i N 0 Q1) := rfl
set_option maxHeartbeats 4000000 in
set_option maxRecDepth 100000 in
theorem wm_findLosses_2 (l : Launch) (D : va_G) (a : Nat → Nat) (cI cZ : ClassId) (N K : Nat) (B Q : Nat → Nat → Int32) (hN : N ≤ 30) (hKK : K ≤ 10) (hC : chs N B) (hDr : drM N K B) (Z : Nat → Prop) (what : Int32) (wd : Int32) {p : Program} {e : Env} {s : State} {m : MethodId} {below : List Frame} {meth : Method} {c : Code} {Q0 : State → Prop} (Sx : CallFix p m c b_M_findLosses 7 s ([.ref (a 0), .int what, .int wd] : List Value).toArray BW R_M) (hD : va_D Z (wM a cI cZ (nI N) (nI K) B Q)) (hK : va_K D classes (tM cI cZ) s) : ∀ (k i : Nat), i + k = N → ∀ (Q1 : (Nat → Nat → Int32)) (H : Heap) (locs : List Loc) (ls : Array Slot), va_P D classes (wM a cI cZ (nI N) (nI K) B Q1) H → va_S Z s.heap H locs → lv_has ls 7 [(0, .ref (a 0)), (1, .int what), (2, .int wd), (3, .int (nI i))] → (∀ (H : Heap) (locs : List Loc) (ls : Array Slot), va_P D classes (wM a cI cZ (nI N) (nI K) B (m_findLosses_2 N K B k i Q1)) H → va_S Z s.heap H locs → lv_has ls 7 [(0, .ref (a 0)), (1, .int what), (2, .int wd)] → W p l e ({ frames := 5, cells := 0, slots := 0, locals := 108 } : Room) s m ([.ref (a 0), .int what, .int wd] : List Value).toArray below meth c H locs 0 0 Q0 (F0 m 59 ls [])) → W p l e ({ frames := 5, cells := 0, slots := 0, locals := 108 } : Room) s m ([.ref (a 0), .int what, .int wd] : List Value).toArray below meth c H locs 0 0 Q0 (F0 m 2 ls []) := by
  obtain ⟨hx, hb, hml, hown, hts⟩ := id Sx
  intro k
  induction k with
  | zero =>
    intro i hi Q1 H locs ls hP hS hl hk
    refine lv_iload_n hx hb d_M_findLosses_2 rfl (lv_at hl 3 rfl) ?_
    refine lv_aload_n hx hb d_M_findLosses_3 rfl (lv_at hl 0 rfl) ?_
    refine va_get (D := D) (ci := 1) (v := .int (nI N)) (C := R_M) (T := F_M) (N := 16) hx hb hts i_M hown hK hP 0 rfl rfl 0 (by decide) (hts _ fl_M_47) (fun _ h9 => h9) rfl d_M_findLosses_4 ?_
    refine lv_icmp_ge (tgt := 59) hx hb d_M_findLosses_7 (by decide) (fun c_7 => ?_) (fun c_7 => absurd (nI_le (a := N) (b := i) (by omega) (by omega)) c_7)
    have e_b : m_findLosses_2 N K B 0 i Q1 = Q1 := by rw [m_findLosses_2_0]
    rw [e_b] at hk
    exact hk _ _ ls hP hS (lv_sub hl [0, 1, 2] rfl)
  | succ k ih =>
    intro i hi Q1 H locs ls hP hS hl hk
    refine lv_iload_n hx hb d_M_findLosses_2 rfl (lv_at hl 3 rfl) ?_
    refine lv_aload_n hx hb d_M_findLosses_3 rfl (lv_at hl 0 rfl) ?_
    refine va_get (D := D) (ci := 1) (v := .int (nI N)) (C := R_M) (T := F_M) (N := 16) hx hb hts i_M hown hK hP 0 rfl rfl 0 (by decide) (hts _ fl_M_47) (fun _ h9 => h9) rfl d_M_findLosses_4 ?_
    refine lv_icmp_ge (tgt := 59) hx hb d_M_findLosses_7 (by decide) (fun c_7 => absurd c_7 (nI_ge (a := i) (b := N) (by omega) (by omega))) (fun c_7 => ?_)
    refine lv_iconst (v := (0 : Int32)) hx hb d_M_findLosses_10 (by decide) ?_
    refine lv_istore (lv' := [(4, .int (0 : Int32)), (0, .ref (a 0)), (1, .int what), (2, .int wd), (3, .int (nI i))]) hx hb d_M_findLosses_11 hl (by decide) rfl (fun ls hl => ?_)
    refine wm_findLosses_13 l D a cI cZ N K B Q hN hKK hC hDr Z what wd i (by omega) Sx (wM_D hD) hK N 0 (by omega) Q1 _ _ ls hP hS (lv_sub hl [1, 2, 3, 4, 0] rfl) (fun H locs ls hP hS hl => ?_)
    refine lv_iinc (v := nI (i + 1)) (lv' := [(3, .int (nI (i + 1))), (0, .ref (a 0)), (1, .int what), (2, .int wd)]) hx hb d_M_findLosses_53 hl (k := 3) rfl (nI_1 i) (by decide) rfl (fun ls hl => ?_)
    refine lv_goto (tgt := 2) hx hb d_M_findLosses_56 (by decide) ?_
    have e_b : m_findLosses_2 N K B (k + 1) i Q1 = m_findLosses_2 N K B k (i + 1) (m_findLosses_13 N K B i N 0 Q1) := by rw [m_findLosses_2_S]
    rw [e_b] at hk
    exact ih (i + 1) (by omega) (m_findLosses_13 N K B i N 0 Q1) _ _ ls hP hS (lv_sub hl [1, 2, 3, 0] rfl) hk
def m_findLosses_61 (N : Nat) (K : Nat) (B : Nat → Nat → Int32) (what : Int32) : Nat → Nat → (Nat → Nat → Int32) → (Nat → Nat → Int32)
  | 0, i, Q1 => Q1
  | k + 1, i, Q1 => (if (B 0 i) = (1 : Int32) then (if (m_spaceOf N K B Q1 (nI i)) = (-1 : Int32) then m_findLosses_61 N K B what k (i + 1) Q1 else (if (B 2 (4 * i)) = (1 : Int32) then (if (B 2 ((4 * i) + 1)) = (1 : Int32) then m_findLosses_61 N K B what k (i + 1) (m_joins N K B Q1 (nI i) (m_spaceOf N K B Q1 (nI i)) (m_lossOf what (0 : Int32) (1 : Int32) (1 : Int32))) else m_findLosses_61 N K B what k (i + 1) (m_joins N K B Q1 (nI i) (m_spaceOf N K B Q1 (nI i)) (m_lossOf what (0 : Int32) (1 : Int32) (0 : Int32)))) else (if (B 2 ((4 * i) + 1)) = (1 : Int32) then m_findLosses_61 N K B what k (i + 1) (m_joins N K B Q1 (nI i) (m_spaceOf N K B Q1 (nI i)) (m_lossOf what (0 : Int32) (0 : Int32) (1 : Int32))) else m_findLosses_61 N K B what k (i + 1) (m_joins N K B Q1 (nI i) (m_spaceOf N K B Q1 (nI i)) (m_lossOf what (0 : Int32) (0 : Int32) (0 : Int32)))))) else m_findLosses_61 N K B what k (i + 1) Q1)
theorem m_findLosses_61_0 (N : Nat) (K : Nat) (B : Nat → Nat → Int32) (what : Int32) (i : Nat) (Q1 : (Nat → Nat → Int32)) : m_findLosses_61 N K B what 0 i Q1 = Q1 := rfl
theorem m_findLosses_61_S (N : Nat) (K : Nat) (B : Nat → Nat → Int32) (what : Int32) (k : Nat) (i : Nat) (Q1 : (Nat → Nat → Int32)) : m_findLosses_61 N K B what (k + 1) i Q1 = (if (B 0 i) = (1 : Int32) then (if (m_spaceOf N K B Q1 (nI i)) = (-1 : Int32) then m_findLosses_61 N K B what k (i + 1) Q1 else (if (B 2 (4 * i)) = (1 : Int32) then (if (B 2 ((4 * i) + 1)) = (1 : Int32) then m_findLosses_61 N K B what k (i + 1) (m_joins N K B Q1 (nI i) (m_spaceOf N K B Q1 (nI i)) (m_lossOf what (0 : Int32) (1 : Int32) (1 : Int32))) else m_findLosses_61 N K B what k (i + 1) (m_joins N K B Q1 (nI i) (m_spaceOf N K B Q1 (nI i)) (m_lossOf what (0 : Int32) (1 : Int32) (0 : Int32)))) else (if (B 2 ((4 * i) + 1)) = (1 : Int32) then m_findLosses_61 N K B what k (i + 1) (m_joins N K B Q1 (nI i) (m_spaceOf N K B Q1 (nI i)) (m_lossOf what (0 : Int32) (0 : Int32) (1 : Int32))) else m_findLosses_61 N K B what k (i + 1) (m_joins N K B Q1 (nI i) (m_spaceOf N K B Q1 (nI i)) (m_lossOf what (0 : Int32) (0 : Int32) (0 : Int32)))))) else m_findLosses_61 N K B what k (i + 1) Q1) := rfl
set_option maxHeartbeats 4000000 in
set_option maxRecDepth 100000 in
theorem wm_findLosses_61 (l : Launch) (D : va_G) (a : Nat → Nat) (cI cZ : ClassId) (N K : Nat) (B Q : Nat → Nat → Int32) (hN : N ≤ 30) (hKK : K ≤ 10) (hC : chs N B) (hDr : drM N K B) (Z : Nat → Prop) (what : Int32) (wd : Int32) {p : Program} {e : Env} {s : State} {m : MethodId} {below : List Frame} {meth : Method} {c : Code} {Q0 : State → Prop} (Sx : CallFix p m c b_M_findLosses 7 s ([.ref (a 0), .int what, .int wd] : List Value).toArray BW R_M) (hD : va_D Z (wM a cI cZ (nI N) (nI K) B Q)) (hK : va_K D classes (tM cI cZ) s) : ∀ (k i : Nat), i + k = N → ∀ (Q1 : (Nat → Nat → Int32)) (H : Heap) (locs : List Loc) (ls : Array Slot), va_P D classes (wM a cI cZ (nI N) (nI K) B Q1) H → va_S Z s.heap H locs → lv_has ls 7 [(0, .ref (a 0)), (1, .int what), (2, .int wd), (3, .int (nI i))] → (∀ (H : Heap) (locs : List Loc) (ls : Array Slot), va_P D classes (wM a cI cZ (nI N) (nI K) B (m_findLosses_61 N K B what k i Q1)) H → va_S Z s.heap H locs → lv_has ls 7 [(0, .ref (a 0)), (1, .int what), (2, .int wd)] → W p l e ({ frames := 5, cells := 0, slots := 0, locals := 108 } : Room) s m ([.ref (a 0), .int what, .int wd] : List Value).toArray below meth c H locs 0 0 Q0 (F0 m 145 ls [])) → W p l e ({ frames := 5, cells := 0, slots := 0, locals := 108 } : Room) s m ([.ref (a 0), .int what, .int wd] : List Value).toArray below meth c H locs 0 0 Q0 (F0 m 61 ls []) := by
  obtain ⟨hx, hb, hml, hown, hts⟩ := id Sx
  intro k
  induction k with
  | zero =>
    intro i hi Q1 H locs ls hP hS hl hk
    refine lv_iload_n hx hb d_M_findLosses_61 rfl (lv_at hl 3 rfl) ?_
    refine lv_aload_n hx hb d_M_findLosses_62 rfl (lv_at hl 0 rfl) ?_
    refine va_get (D := D) (ci := 1) (v := .int (nI N)) (C := R_M) (T := F_M) (N := 16) hx hb hts i_M hown hK hP 0 rfl rfl 0 (by decide) (hts _ fl_M_47) (fun _ h9 => h9) rfl d_M_findLosses_63 ?_
    refine lv_icmp_ge (tgt := 145) hx hb d_M_findLosses_66 (by decide) (fun c_66 => ?_) (fun c_66 => absurd (nI_le (a := N) (b := i) (by omega) (by omega)) c_66)
    have e_b : m_findLosses_61 N K B what 0 i Q1 = Q1 := by rw [m_findLosses_61_0]
    rw [e_b] at hk
    exact hk _ _ ls hP hS (lv_sub hl [0, 1, 2] rfl)
  | succ k ih =>
    intro i hi Q1 H locs ls hP hS hl hk
    refine lv_iload_n hx hb d_M_findLosses_61 rfl (lv_at hl 3 rfl) ?_
    refine lv_aload_n hx hb d_M_findLosses_62 rfl (lv_at hl 0 rfl) ?_
    refine va_get (D := D) (ci := 1) (v := .int (nI N)) (C := R_M) (T := F_M) (N := 16) hx hb hts i_M hown hK hP 0 rfl rfl 0 (by decide) (hts _ fl_M_47) (fun _ h9 => h9) rfl d_M_findLosses_63 ?_
    refine lv_icmp_ge (tgt := 145) hx hb d_M_findLosses_66 (by decide) (fun c_66 => absurd c_66 (nI_ge (a := i) (b := N) (by omega) (by omega))) (fun c_66 => ?_)
    refine lv_aload_n hx hb d_M_findLosses_69 rfl (lv_at hl 0 rfl) ?_
    refine va_get (D := D) (ci := 1) (v := .ref (a 1)) (C := R_M) (T := F_M) (N := 16) hx hb hts i_M hown hK hP 0 rfl rfl 1 (by decide) (hts _ fl_M_7) (fun _ h9 => h9) rfl d_M_findLosses_70 ?_
    refine lv_iload_n hx hb d_M_findLosses_73 rfl (lv_at hl 3 rfl) ?_
    refine x_ialdN (n := 30) hx hb hK hP 1 0 rfl rfl (by omega) (by omega) d_M_findLosses_74 ?_
    refine lv_iconst (v := (1 : Int32)) hx hb d_M_findLosses_75 (by decide) ?_
    refine lv_icmp_ne (tgt := 139) hx hb d_M_findLosses_76 (by decide) (fun c_76 => ?_) (fun c_76 => ?_)
    · refine lv_iinc (v := nI (i + 1)) (lv' := [(3, .int (nI (i + 1))), (0, .ref (a 0)), (1, .int what), (2, .int wd)]) hx hb d_M_findLosses_139 hl (k := 3) rfl (nI_1 i) (by decide) rfl (fun ls hl => ?_)
      refine lv_goto (tgt := 61) hx hb d_M_findLosses_142 (by decide) ?_
      have e_b : m_findLosses_61 N K B what (k + 1) i Q1 = m_findLosses_61 N K B what k (i + 1) Q1 := by rw [m_findLosses_61_S, if_neg c_76]
      rw [e_b] at hk
      exact ih (i + 1) (by omega) Q1 _ _ ls hP hS (lv_sub hl [1, 2, 3, 0] rfl) hk
    · refine lv_aload_n hx hb d_M_findLosses_79 rfl (lv_at hl 0 rfl) ?_
      refine lv_iload_n hx hb d_M_findLosses_80 rfl (lv_at hl 3 rfl) ?_
      refine xro (As := [.int (nI i)]) (rest := []) Sx (cm_spaceOf l D a cI cZ N K B Q1 hN hKK hC hDr (nI i) (⟨i, by omega, rfl⟩)) v_M_spaceOf ⟨rfl, rfl, Nat.le_of_ble_eq_true rfl, Nat.le_of_ble_eq_true rfl⟩ hK hP (ci := 1) (q0 := 0) rfl rfl rfl hl.1 rfl (Nat.le_of_ble_eq_true rfl) d_M_findLosses_81 ⟨Nat.le_of_ble_eq_true rfl, Nat.le_of_ble_eq_true rfl⟩ (fun r hq => ?_)
      subst hq
      refine lv_iconst (v := (-1 : Int32)) hx hb d_M_findLosses_84 (by decide) ?_
      refine lv_icmp_eq (tgt := 139) hx hb d_M_findLosses_85 (by decide) (fun c_85 => ?_) (fun c_85 => ?_)
      · refine lv_iinc (v := nI (i + 1)) (lv' := [(3, .int (nI (i + 1))), (0, .ref (a 0)), (1, .int what), (2, .int wd)]) hx hb d_M_findLosses_139 hl (k := 3) rfl (nI_1 i) (by decide) rfl (fun ls hl => ?_)
        refine lv_goto (tgt := 61) hx hb d_M_findLosses_142 (by decide) ?_
        have e_b : m_findLosses_61 N K B what (k + 1) i Q1 = m_findLosses_61 N K B what k (i + 1) Q1 := by rw [m_findLosses_61_S, if_pos c_76, if_pos c_85]
        rw [e_b] at hk
        exact ih (i + 1) (by omega) Q1 _ _ ls hP hS (lv_sub hl [1, 2, 3, 0] rfl) hk
      · refine lv_aload_n hx hb d_M_findLosses_88 rfl (lv_at hl 0 rfl) ?_
        refine lv_iload_n hx hb d_M_findLosses_89 rfl (lv_at hl 3 rfl) ?_
        refine lv_aload_n hx hb d_M_findLosses_90 rfl (lv_at hl 0 rfl) ?_
        refine lv_iload_n hx hb d_M_findLosses_91 rfl (lv_at hl 3 rfl) ?_
        refine xro (As := [.int (nI i)]) (rest := [.int (nI i), .ref (a 0)]) Sx (cm_spaceOf l D a cI cZ N K B Q1 hN hKK hC hDr (nI i) (⟨i, by omega, rfl⟩)) v_M_spaceOf ⟨rfl, rfl, Nat.le_of_ble_eq_true rfl, Nat.le_of_ble_eq_true rfl⟩ hK hP (ci := 1) (q0 := 0) rfl rfl rfl hl.1 rfl (Nat.le_of_ble_eq_true rfl) d_M_findLosses_92 ⟨Nat.le_of_ble_eq_true rfl, Nat.le_of_ble_eq_true rfl⟩ (fun r hq => ?_)
        subst hq
        refine lv_iload_n hx hb d_M_findLosses_95 rfl (lv_at hl 1 rfl) ?_
        refine lv_iconst (v := (0 : Int32)) hx hb d_M_findLosses_96 (by decide) ?_
        refine lv_aload_n hx hb d_M_findLosses_97 rfl (lv_at hl 0 rfl) ?_
        refine va_get (D := D) (ci := 1) (v := .ref (a 3)) (C := R_M) (T := F_M) (N := 16) hx hb hts i_M hown hK hP 0 rfl rfl 3 (by decide) (hts _ fl_M_16) (fun _ h9 => h9) rfl d_M_findLosses_98 ?_
        refine lv_iconst (v := (4 : Int32)) hx hb d_M_findLosses_101 (by decide) ?_
        refine lv_iload_n hx hb d_M_findLosses_102 rfl (lv_at hl 3 rfl) ?_
        refine x_imulN 4 i rfl rfl hx hb d_M_findLosses_103 ?_
        refine x_ialdN (n := 120) hx hb hK hP 3 0 rfl rfl (by omega) (by omega) d_M_findLosses_104 ?_
        refine lv_iconst (v := (1 : Int32)) hx hb d_M_findLosses_105 (by decide) ?_
        refine lv_icmp_ne (tgt := 113) hx hb d_M_findLosses_106 (by decide) (fun c_106 => ?_) (fun c_106 => ?_)
        · refine lv_iconst (v := (0 : Int32)) hx hb d_M_findLosses_113 (by decide) ?_
          refine lv_aload_n hx hb d_M_findLosses_114 rfl (lv_at hl 0 rfl) ?_
          refine va_get (D := D) (ci := 1) (v := .ref (a 3)) (C := R_M) (T := F_M) (N := 16) hx hb hts i_M hown hK hP 0 rfl rfl 3 (by decide) (hts _ fl_M_16) (fun _ h9 => h9) rfl d_M_findLosses_115 ?_
          refine lv_iconst (v := (4 : Int32)) hx hb d_M_findLosses_118 (by decide) ?_
          refine lv_iload_n hx hb d_M_findLosses_119 rfl (lv_at hl 3 rfl) ?_
          refine x_imulN 4 i rfl rfl hx hb d_M_findLosses_120 ?_
          refine lv_iconst (v := (1 : Int32)) hx hb d_M_findLosses_121 (by decide) ?_
          refine x_iadd1 hx hb d_M_findLosses_122 ?_
          refine x_ialdN (n := 120) hx hb hK hP 3 0 rfl rfl (by omega) (by omega) d_M_findLosses_123 ?_
          refine lv_iconst (v := (1 : Int32)) hx hb d_M_findLosses_124 (by decide) ?_
          refine lv_icmp_ne (tgt := 132) hx hb d_M_findLosses_125 (by decide) (fun c_125 => ?_) (fun c_125 => ?_)
          · refine lv_iconst (v := (0 : Int32)) hx hb d_M_findLosses_132 (by decide) ?_
            refine xst (As := [.int what, .int (0 : Int32), .int (0 : Int32), .int (0 : Int32)]) (rest := [.int (m_spaceOf N K B Q1 (nI i)), .int (nI i), .ref (a 0)]) Sx (cm_lossOf l what (0 : Int32) (0 : Int32) (0 : Int32)) v_M_lossOf ⟨rfl, rfl, Nat.le_of_ble_eq_true rfl, Nat.le_of_ble_eq_true rfl⟩ rfl hl.1 rfl (Nat.le_of_ble_eq_true rfl) d_M_findLosses_133 ⟨Nat.le_of_ble_eq_true rfl, Nat.le_of_ble_eq_true rfl⟩ (fun r hq => ?_)
            subst hq
            refine xwv (As := [.int (nI i), .int (m_spaceOf N K B Q1 (nI i)), .int (m_lossOf what (0 : Int32) (0 : Int32) (0 : Int32))]) (rest := []) Sx (cm_joins l D a cI cZ N K B Q1 hN hKK hC hDr Z (nI i) (m_spaceOf N K B Q1 (nI i)) (m_lossOf what (0 : Int32) (0 : Int32) (0 : Int32)) (⟨i, by omega, rfl⟩) (spaceOfM_j hN hC (⟨i, by omega, rfl⟩) c_85)) v_M_joins ⟨rfl, rfl, Nat.le_of_ble_eq_true rfl, Nat.le_of_ble_eq_true rfl⟩ hK hP (ci := 1) (q0 := 0) rfl rfl (wM_D hD) hS (fun _ h => h) rfl hl.1 rfl (Nat.le_of_ble_eq_true rfl) d_M_findLosses_136 ⟨Nat.le_of_ble_eq_true rfl, Nat.le_of_ble_eq_true rfl⟩ (fun u H locs hu hP hS => ?_)
            subst hu
            have hP : va_P D classes (wM a cI cZ (nI N) (nI K) B (m_joins N K B Q1 (nI i) (m_spaceOf N K B Q1 (nI i)) (m_lossOf what (0 : Int32) (0 : Int32) (0 : Int32)))) H := hP
            refine lv_iinc (v := nI (i + 1)) (lv' := [(3, .int (nI (i + 1))), (0, .ref (a 0)), (1, .int what), (2, .int wd)]) hx hb d_M_findLosses_139 hl (k := 3) rfl (nI_1 i) (by decide) rfl (fun ls hl => ?_)
            refine lv_goto (tgt := 61) hx hb d_M_findLosses_142 (by decide) ?_
            have e_b : m_findLosses_61 N K B what (k + 1) i Q1 = m_findLosses_61 N K B what k (i + 1) (m_joins N K B Q1 (nI i) (m_spaceOf N K B Q1 (nI i)) (m_lossOf what (0 : Int32) (0 : Int32) (0 : Int32))) := by rw [m_findLosses_61_S, if_pos c_76, if_neg c_85, if_neg c_106, if_neg c_125]
            rw [e_b] at hk
            exact ih (i + 1) (by omega) (m_joins N K B Q1 (nI i) (m_spaceOf N K B Q1 (nI i)) (m_lossOf what (0 : Int32) (0 : Int32) (0 : Int32))) _ _ ls hP hS (lv_sub hl [1, 2, 3, 0] rfl) hk
          · refine lv_iconst (v := (1 : Int32)) hx hb d_M_findLosses_128 (by decide) ?_
            refine lv_goto (tgt := 133) hx hb d_M_findLosses_129 (by decide) ?_
            refine xst (As := [.int what, .int (0 : Int32), .int (0 : Int32), .int (1 : Int32)]) (rest := [.int (m_spaceOf N K B Q1 (nI i)), .int (nI i), .ref (a 0)]) Sx (cm_lossOf l what (0 : Int32) (0 : Int32) (1 : Int32)) v_M_lossOf ⟨rfl, rfl, Nat.le_of_ble_eq_true rfl, Nat.le_of_ble_eq_true rfl⟩ rfl hl.1 rfl (Nat.le_of_ble_eq_true rfl) d_M_findLosses_133 ⟨Nat.le_of_ble_eq_true rfl, Nat.le_of_ble_eq_true rfl⟩ (fun r hq => ?_)
            subst hq
            refine xwv (As := [.int (nI i), .int (m_spaceOf N K B Q1 (nI i)), .int (m_lossOf what (0 : Int32) (0 : Int32) (1 : Int32))]) (rest := []) Sx (cm_joins l D a cI cZ N K B Q1 hN hKK hC hDr Z (nI i) (m_spaceOf N K B Q1 (nI i)) (m_lossOf what (0 : Int32) (0 : Int32) (1 : Int32)) (⟨i, by omega, rfl⟩) (spaceOfM_j hN hC (⟨i, by omega, rfl⟩) c_85)) v_M_joins ⟨rfl, rfl, Nat.le_of_ble_eq_true rfl, Nat.le_of_ble_eq_true rfl⟩ hK hP (ci := 1) (q0 := 0) rfl rfl (wM_D hD) hS (fun _ h => h) rfl hl.1 rfl (Nat.le_of_ble_eq_true rfl) d_M_findLosses_136 ⟨Nat.le_of_ble_eq_true rfl, Nat.le_of_ble_eq_true rfl⟩ (fun u H locs hu hP hS => ?_)
            subst hu
            have hP : va_P D classes (wM a cI cZ (nI N) (nI K) B (m_joins N K B Q1 (nI i) (m_spaceOf N K B Q1 (nI i)) (m_lossOf what (0 : Int32) (0 : Int32) (1 : Int32)))) H := hP
            refine lv_iinc (v := nI (i + 1)) (lv' := [(3, .int (nI (i + 1))), (0, .ref (a 0)), (1, .int what), (2, .int wd)]) hx hb d_M_findLosses_139 hl (k := 3) rfl (nI_1 i) (by decide) rfl (fun ls hl => ?_)
            refine lv_goto (tgt := 61) hx hb d_M_findLosses_142 (by decide) ?_
            have e_b : m_findLosses_61 N K B what (k + 1) i Q1 = m_findLosses_61 N K B what k (i + 1) (m_joins N K B Q1 (nI i) (m_spaceOf N K B Q1 (nI i)) (m_lossOf what (0 : Int32) (0 : Int32) (1 : Int32))) := by rw [m_findLosses_61_S, if_pos c_76, if_neg c_85, if_neg c_106, if_pos c_125]
            rw [e_b] at hk
            exact ih (i + 1) (by omega) (m_joins N K B Q1 (nI i) (m_spaceOf N K B Q1 (nI i)) (m_lossOf what (0 : Int32) (0 : Int32) (1 : Int32))) _ _ ls hP hS (lv_sub hl [1, 2, 3, 0] rfl) hk
        · refine lv_iconst (v := (1 : Int32)) hx hb d_M_findLosses_109 (by decide) ?_
          refine lv_goto (tgt := 114) hx hb d_M_findLosses_110 (by decide) ?_
          refine lv_aload_n hx hb d_M_findLosses_114 rfl (lv_at hl 0 rfl) ?_
          refine va_get (D := D) (ci := 1) (v := .ref (a 3)) (C := R_M) (T := F_M) (N := 16) hx hb hts i_M hown hK hP 0 rfl rfl 3 (by decide) (hts _ fl_M_16) (fun _ h9 => h9) rfl d_M_findLosses_115 ?_
          refine lv_iconst (v := (4 : Int32)) hx hb d_M_findLosses_118 (by decide) ?_
          refine lv_iload_n hx hb d_M_findLosses_119 rfl (lv_at hl 3 rfl) ?_
          refine x_imulN 4 i rfl rfl hx hb d_M_findLosses_120 ?_
          refine lv_iconst (v := (1 : Int32)) hx hb d_M_findLosses_121 (by decide) ?_
          refine x_iadd1 hx hb d_M_findLosses_122 ?_
          refine x_ialdN (n := 120) hx hb hK hP 3 0 rfl rfl (by omega) (by omega) d_M_findLosses_123 ?_
          refine lv_iconst (v := (1 : Int32)) hx hb d_M_findLosses_124 (by decide) ?_
          refine lv_icmp_ne (tgt := 132) hx hb d_M_findLosses_125 (by decide) (fun c_125 => ?_) (fun c_125 => ?_)
          · refine lv_iconst (v := (0 : Int32)) hx hb d_M_findLosses_132 (by decide) ?_
            refine xst (As := [.int what, .int (0 : Int32), .int (1 : Int32), .int (0 : Int32)]) (rest := [.int (m_spaceOf N K B Q1 (nI i)), .int (nI i), .ref (a 0)]) Sx (cm_lossOf l what (0 : Int32) (1 : Int32) (0 : Int32)) v_M_lossOf ⟨rfl, rfl, Nat.le_of_ble_eq_true rfl, Nat.le_of_ble_eq_true rfl⟩ rfl hl.1 rfl (Nat.le_of_ble_eq_true rfl) d_M_findLosses_133 ⟨Nat.le_of_ble_eq_true rfl, Nat.le_of_ble_eq_true rfl⟩ (fun r hq => ?_)
            subst hq
            refine xwv (As := [.int (nI i), .int (m_spaceOf N K B Q1 (nI i)), .int (m_lossOf what (0 : Int32) (1 : Int32) (0 : Int32))]) (rest := []) Sx (cm_joins l D a cI cZ N K B Q1 hN hKK hC hDr Z (nI i) (m_spaceOf N K B Q1 (nI i)) (m_lossOf what (0 : Int32) (1 : Int32) (0 : Int32)) (⟨i, by omega, rfl⟩) (spaceOfM_j hN hC (⟨i, by omega, rfl⟩) c_85)) v_M_joins ⟨rfl, rfl, Nat.le_of_ble_eq_true rfl, Nat.le_of_ble_eq_true rfl⟩ hK hP (ci := 1) (q0 := 0) rfl rfl (wM_D hD) hS (fun _ h => h) rfl hl.1 rfl (Nat.le_of_ble_eq_true rfl) d_M_findLosses_136 ⟨Nat.le_of_ble_eq_true rfl, Nat.le_of_ble_eq_true rfl⟩ (fun u H locs hu hP hS => ?_)
            subst hu
            have hP : va_P D classes (wM a cI cZ (nI N) (nI K) B (m_joins N K B Q1 (nI i) (m_spaceOf N K B Q1 (nI i)) (m_lossOf what (0 : Int32) (1 : Int32) (0 : Int32)))) H := hP
            refine lv_iinc (v := nI (i + 1)) (lv' := [(3, .int (nI (i + 1))), (0, .ref (a 0)), (1, .int what), (2, .int wd)]) hx hb d_M_findLosses_139 hl (k := 3) rfl (nI_1 i) (by decide) rfl (fun ls hl => ?_)
            refine lv_goto (tgt := 61) hx hb d_M_findLosses_142 (by decide) ?_
            have e_b : m_findLosses_61 N K B what (k + 1) i Q1 = m_findLosses_61 N K B what k (i + 1) (m_joins N K B Q1 (nI i) (m_spaceOf N K B Q1 (nI i)) (m_lossOf what (0 : Int32) (1 : Int32) (0 : Int32))) := by rw [m_findLosses_61_S, if_pos c_76, if_neg c_85, if_pos c_106, if_neg c_125]
            rw [e_b] at hk
            exact ih (i + 1) (by omega) (m_joins N K B Q1 (nI i) (m_spaceOf N K B Q1 (nI i)) (m_lossOf what (0 : Int32) (1 : Int32) (0 : Int32))) _ _ ls hP hS (lv_sub hl [1, 2, 3, 0] rfl) hk
          · refine lv_iconst (v := (1 : Int32)) hx hb d_M_findLosses_128 (by decide) ?_
            refine lv_goto (tgt := 133) hx hb d_M_findLosses_129 (by decide) ?_
            refine xst (As := [.int what, .int (0 : Int32), .int (1 : Int32), .int (1 : Int32)]) (rest := [.int (m_spaceOf N K B Q1 (nI i)), .int (nI i), .ref (a 0)]) Sx (cm_lossOf l what (0 : Int32) (1 : Int32) (1 : Int32)) v_M_lossOf ⟨rfl, rfl, Nat.le_of_ble_eq_true rfl, Nat.le_of_ble_eq_true rfl⟩ rfl hl.1 rfl (Nat.le_of_ble_eq_true rfl) d_M_findLosses_133 ⟨Nat.le_of_ble_eq_true rfl, Nat.le_of_ble_eq_true rfl⟩ (fun r hq => ?_)
            subst hq
            refine xwv (As := [.int (nI i), .int (m_spaceOf N K B Q1 (nI i)), .int (m_lossOf what (0 : Int32) (1 : Int32) (1 : Int32))]) (rest := []) Sx (cm_joins l D a cI cZ N K B Q1 hN hKK hC hDr Z (nI i) (m_spaceOf N K B Q1 (nI i)) (m_lossOf what (0 : Int32) (1 : Int32) (1 : Int32)) (⟨i, by omega, rfl⟩) (spaceOfM_j hN hC (⟨i, by omega, rfl⟩) c_85)) v_M_joins ⟨rfl, rfl, Nat.le_of_ble_eq_true rfl, Nat.le_of_ble_eq_true rfl⟩ hK hP (ci := 1) (q0 := 0) rfl rfl (wM_D hD) hS (fun _ h => h) rfl hl.1 rfl (Nat.le_of_ble_eq_true rfl) d_M_findLosses_136 ⟨Nat.le_of_ble_eq_true rfl, Nat.le_of_ble_eq_true rfl⟩ (fun u H locs hu hP hS => ?_)
            subst hu
            have hP : va_P D classes (wM a cI cZ (nI N) (nI K) B (m_joins N K B Q1 (nI i) (m_spaceOf N K B Q1 (nI i)) (m_lossOf what (0 : Int32) (1 : Int32) (1 : Int32)))) H := hP
            refine lv_iinc (v := nI (i + 1)) (lv' := [(3, .int (nI (i + 1))), (0, .ref (a 0)), (1, .int what), (2, .int wd)]) hx hb d_M_findLosses_139 hl (k := 3) rfl (nI_1 i) (by decide) rfl (fun ls hl => ?_)
            refine lv_goto (tgt := 61) hx hb d_M_findLosses_142 (by decide) ?_
            have e_b : m_findLosses_61 N K B what (k + 1) i Q1 = m_findLosses_61 N K B what k (i + 1) (m_joins N K B Q1 (nI i) (m_spaceOf N K B Q1 (nI i)) (m_lossOf what (0 : Int32) (1 : Int32) (1 : Int32))) := by rw [m_findLosses_61_S, if_pos c_76, if_neg c_85, if_pos c_106, if_pos c_125]
            rw [e_b] at hk
            exact ih (i + 1) (by omega) (m_joins N K B Q1 (nI i) (m_spaceOf N K B Q1 (nI i)) (m_lossOf what (0 : Int32) (1 : Int32) (1 : Int32))) _ _ ls hP hS (lv_sub hl [1, 2, 3, 0] rfl) hk
def m_findLosses_147 (N : Nat) (K : Nat) (B : Nat → Nat → Int32) (what : Int32) (wd : Int32) : Nat → Nat → (Nat → Nat → Int32) → (Nat → Nat → Int32)
  | 0, i, Q1 => Q1
  | k + 1, i, Q1 => (if wd = (0 : Int32) then Q1 else (if (B 5 i) = (1 : Int32) then (if (B 6 i) = (1 : Int32) then m_findLosses_147 N K B what wd k (i + 1) (m_joins N K B Q1 (B 3 i) (B 4 i) (m_lossOf what (1 : Int32) (1 : Int32) (1 : Int32))) else m_findLosses_147 N K B what wd k (i + 1) (m_joins N K B Q1 (B 3 i) (B 4 i) (m_lossOf what (1 : Int32) (1 : Int32) (0 : Int32)))) else (if (B 6 i) = (1 : Int32) then m_findLosses_147 N K B what wd k (i + 1) (m_joins N K B Q1 (B 3 i) (B 4 i) (m_lossOf what (1 : Int32) (0 : Int32) (1 : Int32))) else m_findLosses_147 N K B what wd k (i + 1) (m_joins N K B Q1 (B 3 i) (B 4 i) (m_lossOf what (1 : Int32) (0 : Int32) (0 : Int32))))))
theorem m_findLosses_147_0 (N : Nat) (K : Nat) (B : Nat → Nat → Int32) (what : Int32) (wd : Int32) (i : Nat) (Q1 : (Nat → Nat → Int32)) : m_findLosses_147 N K B what wd 0 i Q1 = Q1 := rfl
theorem m_findLosses_147_S (N : Nat) (K : Nat) (B : Nat → Nat → Int32) (what : Int32) (wd : Int32) (k : Nat) (i : Nat) (Q1 : (Nat → Nat → Int32)) : m_findLosses_147 N K B what wd (k + 1) i Q1 = (if wd = (0 : Int32) then Q1 else (if (B 5 i) = (1 : Int32) then (if (B 6 i) = (1 : Int32) then m_findLosses_147 N K B what wd k (i + 1) (m_joins N K B Q1 (B 3 i) (B 4 i) (m_lossOf what (1 : Int32) (1 : Int32) (1 : Int32))) else m_findLosses_147 N K B what wd k (i + 1) (m_joins N K B Q1 (B 3 i) (B 4 i) (m_lossOf what (1 : Int32) (1 : Int32) (0 : Int32)))) else (if (B 6 i) = (1 : Int32) then m_findLosses_147 N K B what wd k (i + 1) (m_joins N K B Q1 (B 3 i) (B 4 i) (m_lossOf what (1 : Int32) (0 : Int32) (1 : Int32))) else m_findLosses_147 N K B what wd k (i + 1) (m_joins N K B Q1 (B 3 i) (B 4 i) (m_lossOf what (1 : Int32) (0 : Int32) (0 : Int32)))))) := rfl
set_option maxHeartbeats 4000000 in
set_option maxRecDepth 100000 in
theorem wm_findLosses_147 (l : Launch) (D : va_G) (a : Nat → Nat) (cI cZ : ClassId) (N K : Nat) (B Q : Nat → Nat → Int32) (hN : N ≤ 30) (hKK : K ≤ 10) (hC : chs N B) (hDr : drM N K B) (Z : Nat → Prop) (what : Int32) (wd : Int32) {p : Program} {e : Env} {s : State} {m : MethodId} {below : List Frame} {meth : Method} {c : Code} {Q0 : State → Prop} (Sx : CallFix p m c b_M_findLosses 7 s ([.ref (a 0), .int what, .int wd] : List Value).toArray BW R_M) (hD : va_D Z (wM a cI cZ (nI N) (nI K) B Q)) (hK : va_K D classes (tM cI cZ) s) : ∀ (k i : Nat), i + k = K → ∀ (Q1 : (Nat → Nat → Int32)) (H : Heap) (locs : List Loc) (ls : Array Slot), va_P D classes (wM a cI cZ (nI N) (nI K) B Q1) H → va_S Z s.heap H locs → lv_has ls 7 [(0, .ref (a 0)), (1, .int what), (2, .int wd), (3, .int (nI i))] → (∀ (H : Heap) (locs : List Loc) (ls : Array Slot), va_P D classes (wM a cI cZ (nI N) (nI K) B (m_findLosses_147 N K B what wd k i Q1)) H → va_S Z s.heap H locs → lv_has ls 7 [(0, .ref (a 0)), (1, .int what), (2, .int wd)] → W p l e ({ frames := 5, cells := 0, slots := 0, locals := 108 } : Room) s m ([.ref (a 0), .int what, .int wd] : List Value).toArray below meth c H locs 0 0 Q0 (F0 m 216 ls [])) → W p l e ({ frames := 5, cells := 0, slots := 0, locals := 108 } : Room) s m ([.ref (a 0), .int what, .int wd] : List Value).toArray below meth c H locs 0 0 Q0 (F0 m 147 ls []) := by
  obtain ⟨hx, hb, hml, hown, hts⟩ := id Sx
  intro k
  induction k with
  | zero =>
    intro i hi Q1 H locs ls hP hS hl hk
    refine lv_iload_n hx hb d_M_findLosses_147 rfl (lv_at hl 3 rfl) ?_
    refine lv_aload_n hx hb d_M_findLosses_148 rfl (lv_at hl 0 rfl) ?_
    refine va_get (D := D) (ci := 1) (v := .int (nI K)) (C := R_M) (T := F_M) (N := 16) hx hb hts i_M hown hK hP 0 rfl rfl 4 (by decide) (hts _ fl_M_63) (fun _ h9 => h9) rfl d_M_findLosses_149 ?_
    refine lv_icmp_ge (tgt := 216) hx hb d_M_findLosses_152 (by decide) (fun c_152 => ?_) (fun c_152 => absurd (nI_le (a := K) (b := i) (by omega) (by omega)) c_152)
    have e_b : m_findLosses_147 N K B what wd 0 i Q1 = Q1 := by rw [m_findLosses_147_0]
    rw [e_b] at hk
    exact hk _ _ ls hP hS (lv_sub hl [0, 1, 2] rfl)
  | succ k ih =>
    intro i hi Q1 H locs ls hP hS hl hk
    refine lv_iload_n hx hb d_M_findLosses_147 rfl (lv_at hl 3 rfl) ?_
    refine lv_aload_n hx hb d_M_findLosses_148 rfl (lv_at hl 0 rfl) ?_
    refine va_get (D := D) (ci := 1) (v := .int (nI K)) (C := R_M) (T := F_M) (N := 16) hx hb hts i_M hown hK hP 0 rfl rfl 4 (by decide) (hts _ fl_M_63) (fun _ h9 => h9) rfl d_M_findLosses_149 ?_
    refine lv_icmp_ge (tgt := 216) hx hb d_M_findLosses_152 (by decide) (fun c_152 => absurd c_152 (nI_ge (a := i) (b := K) (by omega) (by omega))) (fun c_152 => ?_)
    refine lv_iload_n hx hb d_M_findLosses_155 rfl (lv_at hl 2 rfl) ?_
    refine lv_if_eq (tgt := 216) hx hb d_M_findLosses_156 (by decide) (fun c_156 => ?_) (fun c_156 => ?_)
    · have e_b : m_findLosses_147 N K B what wd (k + 1) i Q1 = Q1 := by rw [m_findLosses_147_S, if_pos c_156]
      rw [e_b] at hk
      exact hk _ _ ls hP hS (lv_sub hl [0, 1, 2] rfl)
    · refine lv_aload_n hx hb d_M_findLosses_159 rfl (lv_at hl 0 rfl) ?_
      refine lv_aload_n hx hb d_M_findLosses_160 rfl (lv_at hl 0 rfl) ?_
      refine va_get (D := D) (ci := 1) (v := .ref (a 4)) (C := R_M) (T := F_M) (N := 16) hx hb hts i_M hown hK hP 0 rfl rfl 5 (by decide) (hts _ fl_M_19) (fun _ h9 => h9) rfl d_M_findLosses_161 ?_
      refine lv_iload_n hx hb d_M_findLosses_164 rfl (lv_at hl 3 rfl) ?_
      refine x_ialdN (n := 10) hx hb hK hP 4 0 rfl rfl (by omega) (by omega) d_M_findLosses_165 ?_
      refine lv_aload_n hx hb d_M_findLosses_166 rfl (lv_at hl 0 rfl) ?_
      refine va_get (D := D) (ci := 1) (v := .ref (a 5)) (C := R_M) (T := F_M) (N := 16) hx hb hts i_M hown hK hP 0 rfl rfl 6 (by decide) (hts _ fl_M_22) (fun _ h9 => h9) rfl d_M_findLosses_167 ?_
      refine lv_iload_n hx hb d_M_findLosses_170 rfl (lv_at hl 3 rfl) ?_
      refine x_ialdN (n := 10) hx hb hK hP 5 0 rfl rfl (by omega) (by omega) d_M_findLosses_171 ?_
      refine lv_iload_n hx hb d_M_findLosses_172 rfl (lv_at hl 1 rfl) ?_
      refine lv_iconst (v := (1 : Int32)) hx hb d_M_findLosses_173 (by decide) ?_
      refine lv_aload_n hx hb d_M_findLosses_174 rfl (lv_at hl 0 rfl) ?_
      refine va_get (D := D) (ci := 1) (v := .ref (a 6)) (C := R_M) (T := F_M) (N := 16) hx hb hts i_M hown hK hP 0 rfl rfl 7 (by decide) (hts _ fl_M_25) (fun _ h9 => h9) rfl d_M_findLosses_175 ?_
      refine lv_iload_n hx hb d_M_findLosses_178 rfl (lv_at hl 3 rfl) ?_
      refine x_ialdN (n := 10) hx hb hK hP 6 0 rfl rfl (by omega) (by omega) d_M_findLosses_179 ?_
      refine lv_iconst (v := (1 : Int32)) hx hb d_M_findLosses_180 (by decide) ?_
      refine lv_icmp_ne (tgt := 188) hx hb d_M_findLosses_181 (by decide) (fun c_181 => ?_) (fun c_181 => ?_)
      · refine lv_iconst (v := (0 : Int32)) hx hb d_M_findLosses_188 (by decide) ?_
        refine lv_aload_n hx hb d_M_findLosses_189 rfl (lv_at hl 0 rfl) ?_
        refine va_get (D := D) (ci := 1) (v := .ref (a 7)) (C := R_M) (T := F_M) (N := 16) hx hb hts i_M hown hK hP 0 rfl rfl 8 (by decide) (hts _ fl_M_28) (fun _ h9 => h9) rfl d_M_findLosses_190 ?_
        refine lv_iload_n hx hb d_M_findLosses_193 rfl (lv_at hl 3 rfl) ?_
        refine x_ialdN (n := 10) hx hb hK hP 7 0 rfl rfl (by omega) (by omega) d_M_findLosses_194 ?_
        refine lv_iconst (v := (1 : Int32)) hx hb d_M_findLosses_195 (by decide) ?_
        refine lv_icmp_ne (tgt := 203) hx hb d_M_findLosses_196 (by decide) (fun c_196 => ?_) (fun c_196 => ?_)
        · refine lv_iconst (v := (0 : Int32)) hx hb d_M_findLosses_203 (by decide) ?_
          refine xst (As := [.int what, .int (1 : Int32), .int (0 : Int32), .int (0 : Int32)]) (rest := [.int (B 4 i), .int (B 3 i), .ref (a 0)]) Sx (cm_lossOf l what (1 : Int32) (0 : Int32) (0 : Int32)) v_M_lossOf ⟨rfl, rfl, Nat.le_of_ble_eq_true rfl, Nat.le_of_ble_eq_true rfl⟩ rfl hl.1 rfl (Nat.le_of_ble_eq_true rfl) d_M_findLosses_204 ⟨Nat.le_of_ble_eq_true rfl, Nat.le_of_ble_eq_true rfl⟩ (fun r hq => ?_)
          subst hq
          refine xwv (As := [.int (B 3 i), .int (B 4 i), .int (m_lossOf what (1 : Int32) (0 : Int32) (0 : Int32))]) (rest := []) Sx (cm_joins l D a cI cZ N K B Q1 hN hKK hC hDr Z (B 3 i) (B 4 i) (m_lossOf what (1 : Int32) (0 : Int32) (0 : Int32)) (dr3_i hDr (by omega)) (dr4_i hDr (by omega))) v_M_joins ⟨rfl, rfl, Nat.le_of_ble_eq_true rfl, Nat.le_of_ble_eq_true rfl⟩ hK hP (ci := 1) (q0 := 0) rfl rfl (wM_D hD) hS (fun _ h => h) rfl hl.1 rfl (Nat.le_of_ble_eq_true rfl) d_M_findLosses_207 ⟨Nat.le_of_ble_eq_true rfl, Nat.le_of_ble_eq_true rfl⟩ (fun u H locs hu hP hS => ?_)
          subst hu
          have hP : va_P D classes (wM a cI cZ (nI N) (nI K) B (m_joins N K B Q1 (B 3 i) (B 4 i) (m_lossOf what (1 : Int32) (0 : Int32) (0 : Int32)))) H := hP
          refine lv_iinc (v := nI (i + 1)) (lv' := [(3, .int (nI (i + 1))), (0, .ref (a 0)), (1, .int what), (2, .int wd)]) hx hb d_M_findLosses_210 hl (k := 3) rfl (nI_1 i) (by decide) rfl (fun ls hl => ?_)
          refine lv_goto (tgt := 147) hx hb d_M_findLosses_213 (by decide) ?_
          have e_b : m_findLosses_147 N K B what wd (k + 1) i Q1 = m_findLosses_147 N K B what wd k (i + 1) (m_joins N K B Q1 (B 3 i) (B 4 i) (m_lossOf what (1 : Int32) (0 : Int32) (0 : Int32))) := by rw [m_findLosses_147_S, if_neg c_156, if_neg c_181, if_neg c_196]
          rw [e_b] at hk
          exact ih (i + 1) (by omega) (m_joins N K B Q1 (B 3 i) (B 4 i) (m_lossOf what (1 : Int32) (0 : Int32) (0 : Int32))) _ _ ls hP hS (lv_sub hl [1, 2, 3, 0] rfl) hk
        · refine lv_iconst (v := (1 : Int32)) hx hb d_M_findLosses_199 (by decide) ?_
          refine lv_goto (tgt := 204) hx hb d_M_findLosses_200 (by decide) ?_
          refine xst (As := [.int what, .int (1 : Int32), .int (0 : Int32), .int (1 : Int32)]) (rest := [.int (B 4 i), .int (B 3 i), .ref (a 0)]) Sx (cm_lossOf l what (1 : Int32) (0 : Int32) (1 : Int32)) v_M_lossOf ⟨rfl, rfl, Nat.le_of_ble_eq_true rfl, Nat.le_of_ble_eq_true rfl⟩ rfl hl.1 rfl (Nat.le_of_ble_eq_true rfl) d_M_findLosses_204 ⟨Nat.le_of_ble_eq_true rfl, Nat.le_of_ble_eq_true rfl⟩ (fun r hq => ?_)
          subst hq
          refine xwv (As := [.int (B 3 i), .int (B 4 i), .int (m_lossOf what (1 : Int32) (0 : Int32) (1 : Int32))]) (rest := []) Sx (cm_joins l D a cI cZ N K B Q1 hN hKK hC hDr Z (B 3 i) (B 4 i) (m_lossOf what (1 : Int32) (0 : Int32) (1 : Int32)) (dr3_i hDr (by omega)) (dr4_i hDr (by omega))) v_M_joins ⟨rfl, rfl, Nat.le_of_ble_eq_true rfl, Nat.le_of_ble_eq_true rfl⟩ hK hP (ci := 1) (q0 := 0) rfl rfl (wM_D hD) hS (fun _ h => h) rfl hl.1 rfl (Nat.le_of_ble_eq_true rfl) d_M_findLosses_207 ⟨Nat.le_of_ble_eq_true rfl, Nat.le_of_ble_eq_true rfl⟩ (fun u H locs hu hP hS => ?_)
          subst hu
          have hP : va_P D classes (wM a cI cZ (nI N) (nI K) B (m_joins N K B Q1 (B 3 i) (B 4 i) (m_lossOf what (1 : Int32) (0 : Int32) (1 : Int32)))) H := hP
          refine lv_iinc (v := nI (i + 1)) (lv' := [(3, .int (nI (i + 1))), (0, .ref (a 0)), (1, .int what), (2, .int wd)]) hx hb d_M_findLosses_210 hl (k := 3) rfl (nI_1 i) (by decide) rfl (fun ls hl => ?_)
          refine lv_goto (tgt := 147) hx hb d_M_findLosses_213 (by decide) ?_
          have e_b : m_findLosses_147 N K B what wd (k + 1) i Q1 = m_findLosses_147 N K B what wd k (i + 1) (m_joins N K B Q1 (B 3 i) (B 4 i) (m_lossOf what (1 : Int32) (0 : Int32) (1 : Int32))) := by rw [m_findLosses_147_S, if_neg c_156, if_neg c_181, if_pos c_196]
          rw [e_b] at hk
          exact ih (i + 1) (by omega) (m_joins N K B Q1 (B 3 i) (B 4 i) (m_lossOf what (1 : Int32) (0 : Int32) (1 : Int32))) _ _ ls hP hS (lv_sub hl [1, 2, 3, 0] rfl) hk
      · refine lv_iconst (v := (1 : Int32)) hx hb d_M_findLosses_184 (by decide) ?_
        refine lv_goto (tgt := 189) hx hb d_M_findLosses_185 (by decide) ?_
        refine lv_aload_n hx hb d_M_findLosses_189 rfl (lv_at hl 0 rfl) ?_
        refine va_get (D := D) (ci := 1) (v := .ref (a 7)) (C := R_M) (T := F_M) (N := 16) hx hb hts i_M hown hK hP 0 rfl rfl 8 (by decide) (hts _ fl_M_28) (fun _ h9 => h9) rfl d_M_findLosses_190 ?_
        refine lv_iload_n hx hb d_M_findLosses_193 rfl (lv_at hl 3 rfl) ?_
        refine x_ialdN (n := 10) hx hb hK hP 7 0 rfl rfl (by omega) (by omega) d_M_findLosses_194 ?_
        refine lv_iconst (v := (1 : Int32)) hx hb d_M_findLosses_195 (by decide) ?_
        refine lv_icmp_ne (tgt := 203) hx hb d_M_findLosses_196 (by decide) (fun c_196 => ?_) (fun c_196 => ?_)
        · refine lv_iconst (v := (0 : Int32)) hx hb d_M_findLosses_203 (by decide) ?_
          refine xst (As := [.int what, .int (1 : Int32), .int (1 : Int32), .int (0 : Int32)]) (rest := [.int (B 4 i), .int (B 3 i), .ref (a 0)]) Sx (cm_lossOf l what (1 : Int32) (1 : Int32) (0 : Int32)) v_M_lossOf ⟨rfl, rfl, Nat.le_of_ble_eq_true rfl, Nat.le_of_ble_eq_true rfl⟩ rfl hl.1 rfl (Nat.le_of_ble_eq_true rfl) d_M_findLosses_204 ⟨Nat.le_of_ble_eq_true rfl, Nat.le_of_ble_eq_true rfl⟩ (fun r hq => ?_)
          subst hq
          refine xwv (As := [.int (B 3 i), .int (B 4 i), .int (m_lossOf what (1 : Int32) (1 : Int32) (0 : Int32))]) (rest := []) Sx (cm_joins l D a cI cZ N K B Q1 hN hKK hC hDr Z (B 3 i) (B 4 i) (m_lossOf what (1 : Int32) (1 : Int32) (0 : Int32)) (dr3_i hDr (by omega)) (dr4_i hDr (by omega))) v_M_joins ⟨rfl, rfl, Nat.le_of_ble_eq_true rfl, Nat.le_of_ble_eq_true rfl⟩ hK hP (ci := 1) (q0 := 0) rfl rfl (wM_D hD) hS (fun _ h => h) rfl hl.1 rfl (Nat.le_of_ble_eq_true rfl) d_M_findLosses_207 ⟨Nat.le_of_ble_eq_true rfl, Nat.le_of_ble_eq_true rfl⟩ (fun u H locs hu hP hS => ?_)
          subst hu
          have hP : va_P D classes (wM a cI cZ (nI N) (nI K) B (m_joins N K B Q1 (B 3 i) (B 4 i) (m_lossOf what (1 : Int32) (1 : Int32) (0 : Int32)))) H := hP
          refine lv_iinc (v := nI (i + 1)) (lv' := [(3, .int (nI (i + 1))), (0, .ref (a 0)), (1, .int what), (2, .int wd)]) hx hb d_M_findLosses_210 hl (k := 3) rfl (nI_1 i) (by decide) rfl (fun ls hl => ?_)
          refine lv_goto (tgt := 147) hx hb d_M_findLosses_213 (by decide) ?_
          have e_b : m_findLosses_147 N K B what wd (k + 1) i Q1 = m_findLosses_147 N K B what wd k (i + 1) (m_joins N K B Q1 (B 3 i) (B 4 i) (m_lossOf what (1 : Int32) (1 : Int32) (0 : Int32))) := by rw [m_findLosses_147_S, if_neg c_156, if_pos c_181, if_neg c_196]
          rw [e_b] at hk
          exact ih (i + 1) (by omega) (m_joins N K B Q1 (B 3 i) (B 4 i) (m_lossOf what (1 : Int32) (1 : Int32) (0 : Int32))) _ _ ls hP hS (lv_sub hl [1, 2, 3, 0] rfl) hk
        · refine lv_iconst (v := (1 : Int32)) hx hb d_M_findLosses_199 (by decide) ?_
          refine lv_goto (tgt := 204) hx hb d_M_findLosses_200 (by decide) ?_
          refine xst (As := [.int what, .int (1 : Int32), .int (1 : Int32), .int (1 : Int32)]) (rest := [.int (B 4 i), .int (B 3 i), .ref (a 0)]) Sx (cm_lossOf l what (1 : Int32) (1 : Int32) (1 : Int32)) v_M_lossOf ⟨rfl, rfl, Nat.le_of_ble_eq_true rfl, Nat.le_of_ble_eq_true rfl⟩ rfl hl.1 rfl (Nat.le_of_ble_eq_true rfl) d_M_findLosses_204 ⟨Nat.le_of_ble_eq_true rfl, Nat.le_of_ble_eq_true rfl⟩ (fun r hq => ?_)
          subst hq
          refine xwv (As := [.int (B 3 i), .int (B 4 i), .int (m_lossOf what (1 : Int32) (1 : Int32) (1 : Int32))]) (rest := []) Sx (cm_joins l D a cI cZ N K B Q1 hN hKK hC hDr Z (B 3 i) (B 4 i) (m_lossOf what (1 : Int32) (1 : Int32) (1 : Int32)) (dr3_i hDr (by omega)) (dr4_i hDr (by omega))) v_M_joins ⟨rfl, rfl, Nat.le_of_ble_eq_true rfl, Nat.le_of_ble_eq_true rfl⟩ hK hP (ci := 1) (q0 := 0) rfl rfl (wM_D hD) hS (fun _ h => h) rfl hl.1 rfl (Nat.le_of_ble_eq_true rfl) d_M_findLosses_207 ⟨Nat.le_of_ble_eq_true rfl, Nat.le_of_ble_eq_true rfl⟩ (fun u H locs hu hP hS => ?_)
          subst hu
          have hP : va_P D classes (wM a cI cZ (nI N) (nI K) B (m_joins N K B Q1 (B 3 i) (B 4 i) (m_lossOf what (1 : Int32) (1 : Int32) (1 : Int32)))) H := hP
          refine lv_iinc (v := nI (i + 1)) (lv' := [(3, .int (nI (i + 1))), (0, .ref (a 0)), (1, .int what), (2, .int wd)]) hx hb d_M_findLosses_210 hl (k := 3) rfl (nI_1 i) (by decide) rfl (fun ls hl => ?_)
          refine lv_goto (tgt := 147) hx hb d_M_findLosses_213 (by decide) ?_
          have e_b : m_findLosses_147 N K B what wd (k + 1) i Q1 = m_findLosses_147 N K B what wd k (i + 1) (m_joins N K B Q1 (B 3 i) (B 4 i) (m_lossOf what (1 : Int32) (1 : Int32) (1 : Int32))) := by rw [m_findLosses_147_S, if_neg c_156, if_pos c_181, if_pos c_196]
          rw [e_b] at hk
          exact ih (i + 1) (by omega) (m_joins N K B Q1 (B 3 i) (B 4 i) (m_lossOf what (1 : Int32) (1 : Int32) (1 : Int32))) _ _ ls hP hS (lv_sub hl [1, 2, 3, 0] rfl) hk
def m_findLosses_241 (N : Nat) (K : Nat) (B : Nat → Nat → Int32) (m3 : Nat) (m4 : Nat) : Nat → Nat → (Nat → Nat → Int32) → (Nat → Nat → Int32)
  | 0, i, Q1 => Q1
  | k + 1, i, Q1 => (if (Q1 2 ((30 * m4) + i)) ≤ ((Q1 2 ((30 * m4) + m3)) + (Q1 2 ((30 * m3) + i))) then m_findLosses_241 N K B m3 m4 k (i + 1) (sU Q1 2 ((30 * m4) + i) (Q1 2 ((30 * m4) + i))) else m_findLosses_241 N K B m3 m4 k (i + 1) (sU Q1 2 ((30 * m4) + i) ((Q1 2 ((30 * m4) + m3)) + (Q1 2 ((30 * m3) + i)))))
theorem m_findLosses_241_0 (N : Nat) (K : Nat) (B : Nat → Nat → Int32) (m3 : Nat) (m4 : Nat) (i : Nat) (Q1 : (Nat → Nat → Int32)) : m_findLosses_241 N K B m3 m4 0 i Q1 = Q1 := rfl
theorem m_findLosses_241_S (N : Nat) (K : Nat) (B : Nat → Nat → Int32) (m3 : Nat) (m4 : Nat) (k : Nat) (i : Nat) (Q1 : (Nat → Nat → Int32)) : m_findLosses_241 N K B m3 m4 (k + 1) i Q1 = (if (Q1 2 ((30 * m4) + i)) ≤ ((Q1 2 ((30 * m4) + m3)) + (Q1 2 ((30 * m3) + i))) then m_findLosses_241 N K B m3 m4 k (i + 1) (sU Q1 2 ((30 * m4) + i) (Q1 2 ((30 * m4) + i))) else m_findLosses_241 N K B m3 m4 k (i + 1) (sU Q1 2 ((30 * m4) + i) ((Q1 2 ((30 * m4) + m3)) + (Q1 2 ((30 * m3) + i))))) := rfl
set_option maxHeartbeats 4000000 in
set_option maxRecDepth 100000 in
theorem wm_findLosses_241 (l : Launch) (D : va_G) (a : Nat → Nat) (cI cZ : ClassId) (N K : Nat) (B Q : Nat → Nat → Int32) (hN : N ≤ 30) (hKK : K ≤ 10) (hC : chs N B) (hDr : drM N K B) (Z : Nat → Prop) (what : Int32) (wd : Int32) (m3 : Nat) (m4 : Nat) (hm3 : m3 < N) (hm4 : m4 < N) {p : Program} {e : Env} {s : State} {m : MethodId} {below : List Frame} {meth : Method} {c : Code} {Q0 : State → Prop} (Sx : CallFix p m c b_M_findLosses 7 s ([.ref (a 0), .int what, .int wd] : List Value).toArray BW R_M) (hD : va_D Z (wM a cI cZ (nI N) (nI K) B Q)) (hK : va_K D classes (tM cI cZ) s) : ∀ (k i : Nat), i + k = N → ∀ (Q1 : (Nat → Nat → Int32)) (H : Heap) (locs : List Loc) (ls : Array Slot), va_P D classes (wM a cI cZ (nI N) (nI K) B Q1) H → va_S Z s.heap H locs → lv_has ls 7 [(0, .ref (a 0)), (1, .int what), (2, .int wd), (3, .int (nI m3)), (4, .int (nI m4)), (5, .int (nI i))] → (∀ (H : Heap) (locs : List Loc) (ls : Array Slot), va_P D classes (wM a cI cZ (nI N) (nI K) B (m_findLosses_241 N K B m3 m4 k i Q1)) H → va_S Z s.heap H locs → lv_has ls 7 [(0, .ref (a 0)), (1, .int what), (2, .int wd), (3, .int (nI m3)), (4, .int (nI m4))] → W p l e ({ frames := 5, cells := 0, slots := 0, locals := 108 } : Room) s m ([.ref (a 0), .int what, .int wd] : List Value).toArray below meth c H locs 0 0 Q0 (F0 m 332 ls [])) → W p l e ({ frames := 5, cells := 0, slots := 0, locals := 108 } : Room) s m ([.ref (a 0), .int what, .int wd] : List Value).toArray below meth c H locs 0 0 Q0 (F0 m 241 ls []) := by
  obtain ⟨hx, hb, hml, hown, hts⟩ := id Sx
  intro k
  induction k with
  | zero =>
    intro i hi Q1 H locs ls hP hS hl hk
    refine lv_iload hx hb d_M_findLosses_241 (lv_at hl 5 rfl) ?_
    refine lv_aload_n hx hb d_M_findLosses_243 rfl (lv_at hl 0 rfl) ?_
    refine va_get (D := D) (ci := 1) (v := .int (nI N)) (C := R_M) (T := F_M) (N := 16) hx hb hts i_M hown hK hP 0 rfl rfl 0 (by decide) (hts _ fl_M_47) (fun _ h9 => h9) rfl d_M_findLosses_244 ?_
    refine lv_icmp_ge (tgt := 332) hx hb d_M_findLosses_247 (by decide) (fun c_247 => ?_) (fun c_247 => absurd (nI_le (a := N) (b := i) (by omega) (by omega)) c_247)
    have e_b : m_findLosses_241 N K B m3 m4 0 i Q1 = Q1 := by rw [m_findLosses_241_0]
    rw [e_b] at hk
    exact hk _ _ ls hP hS (lv_sub hl [0, 1, 2, 3, 4] rfl)
  | succ k ih =>
    intro i hi Q1 H locs ls hP hS hl hk
    refine lv_iload hx hb d_M_findLosses_241 (lv_at hl 5 rfl) ?_
    refine lv_aload_n hx hb d_M_findLosses_243 rfl (lv_at hl 0 rfl) ?_
    refine va_get (D := D) (ci := 1) (v := .int (nI N)) (C := R_M) (T := F_M) (N := 16) hx hb hts i_M hown hK hP 0 rfl rfl 0 (by decide) (hts _ fl_M_47) (fun _ h9 => h9) rfl d_M_findLosses_244 ?_
    refine lv_icmp_ge (tgt := 332) hx hb d_M_findLosses_247 (by decide) (fun c_247 => absurd c_247 (nI_ge (a := i) (b := N) (by omega) (by omega))) (fun c_247 => ?_)
    refine lv_aload_n hx hb d_M_findLosses_250 rfl (lv_at hl 0 rfl) ?_
    refine va_get (D := D) (ci := 1) (v := .ref (a 10)) (C := R_M) (T := F_M) (N := 16) hx hb hts i_M hown hK hP 0 rfl rfl 13 (by decide) (hts _ fl_M_37) (fun _ h9 => h9) rfl d_M_findLosses_251 ?_
    refine lv_bipush (v := (30 : Int32)) hx hb d_M_findLosses_254 (by decide) ?_
    refine lv_iload hx hb d_M_findLosses_256 (lv_at hl 4 rfl) ?_
    refine x_imulN 30 m4 rfl rfl hx hb d_M_findLosses_258 ?_
    refine lv_iload_n hx hb d_M_findLosses_259 rfl (lv_at hl 3 rfl) ?_
    refine x_iaddN (30 * m4) m3 rfl rfl hx hb d_M_findLosses_260 ?_
    refine x_ialdN (n := 900) hx hb hK hP 10 0 rfl rfl (by omega) (by omega) d_M_findLosses_261 ?_
    refine lv_aload_n hx hb d_M_findLosses_262 rfl (lv_at hl 0 rfl) ?_
    refine va_get (D := D) (ci := 1) (v := .ref (a 10)) (C := R_M) (T := F_M) (N := 16) hx hb hts i_M hown hK hP 0 rfl rfl 13 (by decide) (hts _ fl_M_37) (fun _ h9 => h9) rfl d_M_findLosses_263 ?_
    refine lv_bipush (v := (30 : Int32)) hx hb d_M_findLosses_266 (by decide) ?_
    refine lv_iload_n hx hb d_M_findLosses_268 rfl (lv_at hl 3 rfl) ?_
    refine x_imulN 30 m3 rfl rfl hx hb d_M_findLosses_269 ?_
    refine lv_iload hx hb d_M_findLosses_270 (lv_at hl 5 rfl) ?_
    refine x_iaddN (30 * m3) i rfl rfl hx hb d_M_findLosses_272 ?_
    refine x_ialdN (n := 900) hx hb hK hP 10 0 rfl rfl (by omega) (by omega) d_M_findLosses_273 ?_
    refine lv_iadd hx hb d_M_findLosses_274 ?_
    refine lv_istore (lv' := [(6, .int ((Q1 2 ((30 * m4) + m3)) + (Q1 2 ((30 * m3) + i)))), (0, .ref (a 0)), (1, .int what), (2, .int wd), (3, .int (nI m3)), (4, .int (nI m4)), (5, .int (nI i))]) hx hb d_M_findLosses_275 hl (by decide) rfl (fun ls hl => ?_)
    refine lv_aload_n hx hb d_M_findLosses_277 rfl (lv_at hl 1 rfl) ?_
    refine va_get (D := D) (ci := 1) (v := .ref (a 10)) (C := R_M) (T := F_M) (N := 16) hx hb hts i_M hown hK hP 0 rfl rfl 13 (by decide) (hts _ fl_M_37) (fun _ h9 => h9) rfl d_M_findLosses_278 ?_
    refine lv_bipush (v := (30 : Int32)) hx hb d_M_findLosses_281 (by decide) ?_
    refine lv_iload hx hb d_M_findLosses_283 (lv_at hl 5 rfl) ?_
    refine x_imulN 30 m4 rfl rfl hx hb d_M_findLosses_285 ?_
    refine lv_iload hx hb d_M_findLosses_286 (lv_at hl 6 rfl) ?_
    refine x_iaddN (30 * m4) i rfl rfl hx hb d_M_findLosses_288 ?_
    refine lv_iload hx hb d_M_findLosses_289 (lv_at hl 0 rfl) ?_
    refine lv_aload_n hx hb d_M_findLosses_291 rfl (lv_at hl 1 rfl) ?_
    refine va_get (D := D) (ci := 1) (v := .ref (a 10)) (C := R_M) (T := F_M) (N := 16) hx hb hts i_M hown hK hP 0 rfl rfl 13 (by decide) (hts _ fl_M_37) (fun _ h9 => h9) rfl d_M_findLosses_292 ?_
    refine lv_bipush (v := (30 : Int32)) hx hb d_M_findLosses_295 (by decide) ?_
    refine lv_iload hx hb d_M_findLosses_297 (lv_at hl 5 rfl) ?_
    refine x_imulN 30 m4 rfl rfl hx hb d_M_findLosses_299 ?_
    refine lv_iload hx hb d_M_findLosses_300 (lv_at hl 6 rfl) ?_
    refine x_iaddN (30 * m4) i rfl rfl hx hb d_M_findLosses_302 ?_
    refine x_ialdN (n := 900) hx hb hK hP 10 0 rfl rfl (by omega) (by omega) d_M_findLosses_303 ?_
    refine lv_icmp_ge (tgt := 312) hx hb d_M_findLosses_304 (by decide) (fun c_304 => ?_) (fun c_304 => ?_)
    · refine lv_aload_n hx hb d_M_findLosses_312 rfl (lv_at hl 1 rfl) ?_
      refine va_get (D := D) (ci := 1) (v := .ref (a 10)) (C := R_M) (T := F_M) (N := 16) hx hb hts i_M hown hK hP 0 rfl rfl 13 (by decide) (hts _ fl_M_37) (fun _ h9 => h9) rfl d_M_findLosses_313 ?_
      refine lv_bipush (v := (30 : Int32)) hx hb d_M_findLosses_316 (by decide) ?_
      refine lv_iload hx hb d_M_findLosses_318 (lv_at hl 5 rfl) ?_
      refine x_imulN 30 m4 rfl rfl hx hb d_M_findLosses_320 ?_
      refine lv_iload hx hb d_M_findLosses_321 (lv_at hl 6 rfl) ?_
      refine x_iaddN (30 * m4) i rfl rfl hx hb d_M_findLosses_323 ?_
      refine x_ialdN (n := 900) hx hb hK hP 10 0 rfl rfl (by omega) (by omega) d_M_findLosses_324 ?_
      refine x_iastN (n := 900) hx hb hK hP (wM_D hD) hS 10 0 rfl rfl (by omega) (by omega) d_M_findLosses_325 (fun H locs hP _ hS => ?_)
      have hP : va_P D classes (wM a cI cZ (nI N) (nI K) B (sU Q1 2 ((30 * m4) + i) (Q1 2 ((30 * m4) + i)))) H := by have h9 := hP; rw [wM_s10] at h9; exact h9
      refine lv_iinc (v := nI (i + 1)) (lv' := [(5, .int (nI (i + 1))), (6, .int ((Q1 2 ((30 * m4) + m3)) + (Q1 2 ((30 * m3) + i)))), (0, .ref (a 0)), (1, .int what), (2, .int wd), (3, .int (nI m3)), (4, .int (nI m4))]) hx hb d_M_findLosses_326 hl (k := 6) rfl (nI_1 i) (by decide) rfl (fun ls hl => ?_)
      refine lv_goto (tgt := 241) hx hb d_M_findLosses_329 (by decide) ?_
      have e_b : m_findLosses_241 N K B m3 m4 (k + 1) i Q1 = m_findLosses_241 N K B m3 m4 k (i + 1) (sU Q1 2 ((30 * m4) + i) (Q1 2 ((30 * m4) + i))) := by rw [m_findLosses_241_S, if_pos c_304]
      rw [e_b] at hk
      exact ih (i + 1) (by omega) (sU Q1 2 ((30 * m4) + i) (Q1 2 ((30 * m4) + i))) _ _ ls hP hS (lv_sub hl [2, 3, 4, 5, 6, 0] rfl) hk
    · refine lv_iload hx hb d_M_findLosses_307 (lv_at hl 0 rfl) ?_
      refine lv_goto (tgt := 325) hx hb d_M_findLosses_309 (by decide) ?_
      refine x_iastN (n := 900) hx hb hK hP (wM_D hD) hS 10 0 rfl rfl (by omega) (by omega) d_M_findLosses_325 (fun H locs hP _ hS => ?_)
      have hP : va_P D classes (wM a cI cZ (nI N) (nI K) B (sU Q1 2 ((30 * m4) + i) ((Q1 2 ((30 * m4) + m3)) + (Q1 2 ((30 * m3) + i))))) H := by have h9 := hP; rw [wM_s10] at h9; exact h9
      refine lv_iinc (v := nI (i + 1)) (lv' := [(5, .int (nI (i + 1))), (6, .int ((Q1 2 ((30 * m4) + m3)) + (Q1 2 ((30 * m3) + i)))), (0, .ref (a 0)), (1, .int what), (2, .int wd), (3, .int (nI m3)), (4, .int (nI m4))]) hx hb d_M_findLosses_326 hl (k := 6) rfl (nI_1 i) (by decide) rfl (fun ls hl => ?_)
      refine lv_goto (tgt := 241) hx hb d_M_findLosses_329 (by decide) ?_
      have e_b : m_findLosses_241 N K B m3 m4 (k + 1) i Q1 = m_findLosses_241 N K B m3 m4 k (i + 1) (sU Q1 2 ((30 * m4) + i) ((Q1 2 ((30 * m4) + m3)) + (Q1 2 ((30 * m3) + i)))) := by rw [m_findLosses_241_S, if_neg c_304]
      rw [e_b] at hk
      exact ih (i + 1) (by omega) (sU Q1 2 ((30 * m4) + i) ((Q1 2 ((30 * m4) + m3)) + (Q1 2 ((30 * m3) + i)))) _ _ ls hP hS (lv_sub hl [2, 3, 4, 5, 6, 0] rfl) hk
def m_findLosses_229 (N : Nat) (K : Nat) (B : Nat → Nat → Int32) (m3 : Nat) : Nat → Nat → (Nat → Nat → Int32) → (Nat → Nat → Int32)
  | 0, i, Q1 => Q1
  | k + 1, i, Q1 => m_findLosses_229 N K B m3 k (i + 1) (m_findLosses_241 N K B m3 i N 0 Q1)
theorem m_findLosses_229_0 (N : Nat) (K : Nat) (B : Nat → Nat → Int32) (m3 : Nat) (i : Nat) (Q1 : (Nat → Nat → Int32)) : m_findLosses_229 N K B m3 0 i Q1 = Q1 := rfl
theorem m_findLosses_229_S (N : Nat) (K : Nat) (B : Nat → Nat → Int32) (m3 : Nat) (k : Nat) (i : Nat) (Q1 : (Nat → Nat → Int32)) : m_findLosses_229 N K B m3 (k + 1) i Q1 = m_findLosses_229 N K B m3 k (i + 1) (m_findLosses_241 N K B m3 i N 0 Q1) := rfl
set_option maxHeartbeats 4000000 in
set_option maxRecDepth 100000 in
theorem wm_findLosses_229 (l : Launch) (D : va_G) (a : Nat → Nat) (cI cZ : ClassId) (N K : Nat) (B Q : Nat → Nat → Int32) (hN : N ≤ 30) (hKK : K ≤ 10) (hC : chs N B) (hDr : drM N K B) (Z : Nat → Prop) (what : Int32) (wd : Int32) (m3 : Nat) (hm3 : m3 < N) {p : Program} {e : Env} {s : State} {m : MethodId} {below : List Frame} {meth : Method} {c : Code} {Q0 : State → Prop} (Sx : CallFix p m c b_M_findLosses 7 s ([.ref (a 0), .int what, .int wd] : List Value).toArray BW R_M) (hD : va_D Z (wM a cI cZ (nI N) (nI K) B Q)) (hK : va_K D classes (tM cI cZ) s) : ∀ (k i : Nat), i + k = N → ∀ (Q1 : (Nat → Nat → Int32)) (H : Heap) (locs : List Loc) (ls : Array Slot), va_P D classes (wM a cI cZ (nI N) (nI K) B Q1) H → va_S Z s.heap H locs → lv_has ls 7 [(0, .ref (a 0)), (1, .int what), (2, .int wd), (3, .int (nI m3)), (4, .int (nI i))] → (∀ (H : Heap) (locs : List Loc) (ls : Array Slot), va_P D classes (wM a cI cZ (nI N) (nI K) B (m_findLosses_229 N K B m3 k i Q1)) H → va_S Z s.heap H locs → lv_has ls 7 [(0, .ref (a 0)), (1, .int what), (2, .int wd), (3, .int (nI m3))] → W p l e ({ frames := 5, cells := 0, slots := 0, locals := 108 } : Room) s m ([.ref (a 0), .int what, .int wd] : List Value).toArray below meth c H locs 0 0 Q0 (F0 m 338 ls [])) → W p l e ({ frames := 5, cells := 0, slots := 0, locals := 108 } : Room) s m ([.ref (a 0), .int what, .int wd] : List Value).toArray below meth c H locs 0 0 Q0 (F0 m 229 ls []) := by
  obtain ⟨hx, hb, hml, hown, hts⟩ := id Sx
  intro k
  induction k with
  | zero =>
    intro i hi Q1 H locs ls hP hS hl hk
    refine lv_iload hx hb d_M_findLosses_229 (lv_at hl 4 rfl) ?_
    refine lv_aload_n hx hb d_M_findLosses_231 rfl (lv_at hl 0 rfl) ?_
    refine va_get (D := D) (ci := 1) (v := .int (nI N)) (C := R_M) (T := F_M) (N := 16) hx hb hts i_M hown hK hP 0 rfl rfl 0 (by decide) (hts _ fl_M_47) (fun _ h9 => h9) rfl d_M_findLosses_232 ?_
    refine lv_icmp_ge (tgt := 338) hx hb d_M_findLosses_235 (by decide) (fun c_235 => ?_) (fun c_235 => absurd (nI_le (a := N) (b := i) (by omega) (by omega)) c_235)
    have e_b : m_findLosses_229 N K B m3 0 i Q1 = Q1 := by rw [m_findLosses_229_0]
    rw [e_b] at hk
    exact hk _ _ ls hP hS (lv_sub hl [0, 1, 2, 3] rfl)
  | succ k ih =>
    intro i hi Q1 H locs ls hP hS hl hk
    refine lv_iload hx hb d_M_findLosses_229 (lv_at hl 4 rfl) ?_
    refine lv_aload_n hx hb d_M_findLosses_231 rfl (lv_at hl 0 rfl) ?_
    refine va_get (D := D) (ci := 1) (v := .int (nI N)) (C := R_M) (T := F_M) (N := 16) hx hb hts i_M hown hK hP 0 rfl rfl 0 (by decide) (hts _ fl_M_47) (fun _ h9 => h9) rfl d_M_findLosses_232 ?_
    refine lv_icmp_ge (tgt := 338) hx hb d_M_findLosses_235 (by decide) (fun c_235 => absurd c_235 (nI_ge (a := i) (b := N) (by omega) (by omega))) (fun c_235 => ?_)
    refine lv_iconst (v := (0 : Int32)) hx hb d_M_findLosses_238 (by decide) ?_
    refine lv_istore (lv' := [(5, .int (0 : Int32)), (0, .ref (a 0)), (1, .int what), (2, .int wd), (3, .int (nI m3)), (4, .int (nI i))]) hx hb d_M_findLosses_239 hl (by decide) rfl (fun ls hl => ?_)
    refine wm_findLosses_241 l D a cI cZ N K B Q hN hKK hC hDr Z what wd m3 i (by omega) (by omega) Sx (wM_D hD) hK N 0 (by omega) Q1 _ _ ls hP hS (lv_sub hl [1, 2, 3, 4, 5, 0] rfl) (fun H locs ls hP hS hl => ?_)
    refine lv_iinc (v := nI (i + 1)) (lv' := [(4, .int (nI (i + 1))), (0, .ref (a 0)), (1, .int what), (2, .int wd), (3, .int (nI m3))]) hx hb d_M_findLosses_332 hl (k := 4) rfl (nI_1 i) (by decide) rfl (fun ls hl => ?_)
    refine lv_goto (tgt := 229) hx hb d_M_findLosses_335 (by decide) ?_
    have e_b : m_findLosses_229 N K B m3 (k + 1) i Q1 = m_findLosses_229 N K B m3 k (i + 1) (m_findLosses_241 N K B m3 i N 0 Q1) := by rw [m_findLosses_229_S]
    rw [e_b] at hk
    exact ih (i + 1) (by omega) (m_findLosses_241 N K B m3 i N 0 Q1) _ _ ls hP hS (lv_sub hl [1, 2, 3, 4, 0] rfl) hk
def m_findLosses_218 (N : Nat) (K : Nat) (B : Nat → Nat → Int32) : Nat → Nat → (Nat → Nat → Int32) → (Nat → Nat → Int32)
  | 0, i, Q1 => Q1
  | k + 1, i, Q1 => m_findLosses_218 N K B k (i + 1) (m_findLosses_229 N K B i N 0 Q1)
theorem m_findLosses_218_0 (N : Nat) (K : Nat) (B : Nat → Nat → Int32) (i : Nat) (Q1 : (Nat → Nat → Int32)) : m_findLosses_218 N K B 0 i Q1 = Q1 := rfl
theorem m_findLosses_218_S (N : Nat) (K : Nat) (B : Nat → Nat → Int32) (k : Nat) (i : Nat) (Q1 : (Nat → Nat → Int32)) : m_findLosses_218 N K B (k + 1) i Q1 = m_findLosses_218 N K B k (i + 1) (m_findLosses_229 N K B i N 0 Q1) := rfl
set_option maxHeartbeats 4000000 in
set_option maxRecDepth 100000 in
theorem wm_findLosses_218 (l : Launch) (D : va_G) (a : Nat → Nat) (cI cZ : ClassId) (N K : Nat) (B Q : Nat → Nat → Int32) (hN : N ≤ 30) (hKK : K ≤ 10) (hC : chs N B) (hDr : drM N K B) (Z : Nat → Prop) (what : Int32) (wd : Int32) {p : Program} {e : Env} {s : State} {m : MethodId} {below : List Frame} {meth : Method} {c : Code} (Sx : CallFix p m c b_M_findLosses 7 s ([.ref (a 0), .int what, .int wd] : List Value).toArray BW R_M) (hr : meth.sig.returnType = none) (hlk : meth.locks = false) (hD : va_D Z (wM a cI cZ (nI N) (nI K) B Q)) (hK : va_K D classes (tM cI cZ) s) : ∀ (k i : Nat), i + k = N → ∀ (Q1 : (Nat → Nat → Int32)) (H : Heap) (locs : List Loc) (ls : Array Slot), va_P D classes (wM a cI cZ (nI N) (nI K) B Q1) H → va_S Z s.heap H locs → lv_has ls 7 [(0, .ref (a 0)), (1, .int what), (2, .int wd), (3, .int (nI i))] → W p l e ({ frames := 5, cells := 0, slots := 0, locals := 108 } : Room) s m ([.ref (a 0), .int what, .int wd] : List Value).toArray below meth c H locs 0 0 (MQ below (va_Qv (fun u => u = m_findLosses_218 N K B k i Q1) (atW D (fun u => wM a cI cZ (nI N) (nI K) B u) (tM cI cZ)) Z) ([.ref (a 0), .int what, .int wd] : List Value).toArray s 0 0 Z) (F0 m 218 ls []) := by
  obtain ⟨hx, hb, hml, hown, hts⟩ := id Sx
  intro k
  induction k with
  | zero =>
    intro i hi Q1 H locs ls hP hS hl
    refine lv_iload_n hx hb d_M_findLosses_218 rfl (lv_at hl 3 rfl) ?_
    refine lv_aload_n hx hb d_M_findLosses_219 rfl (lv_at hl 0 rfl) ?_
    refine va_get (D := D) (ci := 1) (v := .int (nI N)) (C := R_M) (T := F_M) (N := 16) hx hb hts i_M hown hK hP 0 rfl rfl 0 (by decide) (hts _ fl_M_47) (fun _ h9 => h9) rfl d_M_findLosses_220 ?_
    refine lv_icmp_ge (tgt := 344) hx hb d_M_findLosses_223 (by decide) (fun c_223 => ?_) (fun c_223 => absurd (nI_le (a := N) (b := i) (by omega) (by omega)) c_223)
    exact wRetV (u := Q1) hx hb hr hlk (show Q1 = m_findLosses_218 N K B 0 i Q1 from by rw [m_findLosses_218_0]) hP hK hS d_M_findLosses_344
  | succ k ih =>
    intro i hi Q1 H locs ls hP hS hl
    refine lv_iload_n hx hb d_M_findLosses_218 rfl (lv_at hl 3 rfl) ?_
    refine lv_aload_n hx hb d_M_findLosses_219 rfl (lv_at hl 0 rfl) ?_
    refine va_get (D := D) (ci := 1) (v := .int (nI N)) (C := R_M) (T := F_M) (N := 16) hx hb hts i_M hown hK hP 0 rfl rfl 0 (by decide) (hts _ fl_M_47) (fun _ h9 => h9) rfl d_M_findLosses_220 ?_
    refine lv_icmp_ge (tgt := 344) hx hb d_M_findLosses_223 (by decide) (fun c_223 => absurd c_223 (nI_ge (a := i) (b := N) (by omega) (by omega))) (fun c_223 => ?_)
    refine lv_iconst (v := (0 : Int32)) hx hb d_M_findLosses_226 (by decide) ?_
    refine lv_istore (lv' := [(4, .int (0 : Int32)), (0, .ref (a 0)), (1, .int what), (2, .int wd), (3, .int (nI i))]) hx hb d_M_findLosses_227 hl (by decide) rfl (fun ls hl => ?_)
    refine wm_findLosses_229 l D a cI cZ N K B Q hN hKK hC hDr Z what wd i (by omega) Sx (wM_D hD) hK N 0 (by omega) Q1 _ _ ls hP hS (lv_sub hl [1, 2, 3, 4, 0] rfl) (fun H locs ls hP hS hl => ?_)
    refine lv_iinc (v := nI (i + 1)) (lv' := [(3, .int (nI (i + 1))), (0, .ref (a 0)), (1, .int what), (2, .int wd)]) hx hb d_M_findLosses_338 hl (k := 3) rfl (nI_1 i) (by decide) rfl (fun ls hl => ?_)
    refine lv_goto (tgt := 218) hx hb d_M_findLosses_341 (by decide) ?_
    have e_b : m_findLosses_218 N K B (k + 1) i Q1 = m_findLosses_218 N K B k (i + 1) (m_findLosses_229 N K B i N 0 Q1) := by rw [m_findLosses_218_S]
    rw [e_b]
    exact ih (i + 1) (by omega) (m_findLosses_229 N K B i N 0 Q1) _ _ ls hP hS (lv_sub hl [1, 2, 3, 0] rfl)
def m_findLosses (N : Nat) (K : Nat) (B : Nat → Nat → Int32) (Q : Nat → Nat → Int32) (what wd : Int32) : (Nat → Nat → Int32) := m_findLosses_218 N K B N 0 (m_findLosses_147 N K B what wd K 0 (m_findLosses_61 N K B what N 0 (m_findLosses_2 N K B N 0 Q)))
set_option maxHeartbeats 4000000 in
set_option maxRecDepth 100000 in
theorem cm_findLosses (l : Launch) (D : va_G) (a : Nat → Nat) (cI cZ : ClassId) (N K : Nat) (B Q : Nat → Nat → Int32) (hN : N ≤ 30) (hKK : K ≤ 10) (hC : chs N B) (hDr : drM N K B) (Z : Nat → Prop) (what wd : Int32) : Met l y_M_findLosses (Cond.code y_M_findLosses b_M_findLosses 7 none :: BW) ({ frames := 5, cells := 0, slots := 0, locals := 108 } : Room) (PcW D Z (wM a cI cZ (nI N) (nI K) B Q) (tM cI cZ) [.ref (a 0), .int what, .int wd]) (va_Qv (fun u => u = m_findLosses N K B Q what wd) (atW D (fun u => wM a cI cZ (nI N) (nI K) B u) (tM cI cZ)) Z) 0 0 Z := by
  refine wStartV (by decide) rfl (Nat.le_of_ble_eq_true rfl) (fun p e s m below meth c Sx hr hlk hP hK hD hS ls hl => ?_)
  obtain ⟨hx, hb, hml, hown, hts⟩ := id Sx
  have hl : lv_has ls 7 [(0, .ref (a 0)), (1, .int what), (2, .int wd)] := hl
  refine lv_iconst (v := (0 : Int32)) hx hb d_M_findLosses_0 (by decide) ?_
  refine lv_istore_n (lv' := [(3, .int (0 : Int32)), (0, .ref (a 0)), (1, .int what), (2, .int wd)]) hx hb d_M_findLosses_1 rfl hl (by decide) rfl (fun ls hl => ?_)
  refine wm_findLosses_2 l D a cI cZ N K B Q hN hKK hC hDr Z what wd Sx (wM_D hD) hK N 0 (by omega) Q _ _ ls hP hS (lv_sub hl [1, 2, 3, 0] rfl) (fun H locs ls hP hS hl => ?_)
  refine lv_iconst (v := (0 : Int32)) hx hb d_M_findLosses_59 (by decide) ?_
  refine lv_istore_n (lv' := [(3, .int (0 : Int32)), (0, .ref (a 0)), (1, .int what), (2, .int wd)]) hx hb d_M_findLosses_60 rfl hl (by decide) rfl (fun ls hl => ?_)
  refine wm_findLosses_61 l D a cI cZ N K B Q hN hKK hC hDr Z what wd Sx (wM_D hD) hK N 0 (by omega) (m_findLosses_2 N K B N 0 Q) _ _ ls hP hS (lv_sub hl [1, 2, 3, 0] rfl) (fun H locs ls hP hS hl => ?_)
  refine lv_iconst (v := (0 : Int32)) hx hb d_M_findLosses_145 (by decide) ?_
  refine lv_istore_n (lv' := [(3, .int (0 : Int32)), (0, .ref (a 0)), (1, .int what), (2, .int wd)]) hx hb d_M_findLosses_146 rfl hl (by decide) rfl (fun ls hl => ?_)
  refine wm_findLosses_147 l D a cI cZ N K B Q hN hKK hC hDr Z what wd Sx (wM_D hD) hK K 0 (by omega) (m_findLosses_61 N K B what N 0 (m_findLosses_2 N K B N 0 Q)) _ _ ls hP hS (lv_sub hl [1, 2, 3, 0] rfl) (fun H locs ls hP hS hl => ?_)
  refine lv_iconst (v := (0 : Int32)) hx hb d_M_findLosses_216 (by decide) ?_
  refine lv_istore_n (lv' := [(3, .int (0 : Int32)), (0, .ref (a 0)), (1, .int what), (2, .int wd)]) hx hb d_M_findLosses_217 rfl hl (by decide) rfl (fun ls hl => ?_)
  have e_218 : m_findLosses N K B Q what wd = m_findLosses_218 N K B N 0 (m_findLosses_147 N K B what wd K 0 (m_findLosses_61 N K B what N 0 (m_findLosses_2 N K B N 0 Q))) := by rw [m_findLosses]
  rw [e_218]
  exact wm_findLosses_218 l D a cI cZ N K B Q hN hKK hC hDr Z what wd Sx hr hlk (wM_D hD) hK N 0 (by omega) (m_findLosses_147 N K B what wd K 0 (m_findLosses_61 N K B what N 0 (m_findLosses_2 N K B N 0 Q))) _ _ ls hP hS (lv_sub hl [1, 2, 3, 0] rfl)

def m_looks_8 (N : Nat) (K : Nat) (B : Nat → Nat → Int32) : Nat → Nat → (Nat → Nat → Int32) → (Nat → Nat → Int32)
  | 0, i, Q1 => Q1
  | k + 1, i, Q1 => (if (m_isSpace N K B Q1 (nI i)) = (0 : Int32) then m_looks_8 N K B k (i + 1) (sU Q1 4 i (0 : Int32)) else (if (m_greatest N K B Q1 (nI i) (0 : Int32)) ≤ (0 : Int32) then m_looks_8 N K B k (i + 1) (sU Q1 4 i (0 : Int32)) else m_looks_8 N K B k (i + 1) (sU Q1 4 i (1 : Int32))))
theorem m_looks_8_0 (N : Nat) (K : Nat) (B : Nat → Nat → Int32) (i : Nat) (Q1 : (Nat → Nat → Int32)) : m_looks_8 N K B 0 i Q1 = Q1 := rfl
theorem m_looks_8_S (N : Nat) (K : Nat) (B : Nat → Nat → Int32) (k : Nat) (i : Nat) (Q1 : (Nat → Nat → Int32)) : m_looks_8 N K B (k + 1) i Q1 = (if (m_isSpace N K B Q1 (nI i)) = (0 : Int32) then m_looks_8 N K B k (i + 1) (sU Q1 4 i (0 : Int32)) else (if (m_greatest N K B Q1 (nI i) (0 : Int32)) ≤ (0 : Int32) then m_looks_8 N K B k (i + 1) (sU Q1 4 i (0 : Int32)) else m_looks_8 N K B k (i + 1) (sU Q1 4 i (1 : Int32)))) := rfl
set_option maxHeartbeats 4000000 in
set_option maxRecDepth 100000 in
theorem wm_looks_8 (l : Launch) (D : va_G) (a : Nat → Nat) (cI cZ : ClassId) (N K : Nat) (B Q : Nat → Nat → Int32) (hN : N ≤ 30) (hKK : K ≤ 10) (hC : chs N B) (hDr : drM N K B) (Z : Nat → Prop) {p : Program} {e : Env} {s : State} {m : MethodId} {below : List Frame} {meth : Method} {c : Code} {Q0 : State → Prop} (Sx : CallFix p m c b_M_looks 2 s ([.ref (a 0)] : List Value).toArray BW R_M) (hD : va_D Z (wM a cI cZ (nI N) (nI K) B Q)) (hK : va_K D classes (tM cI cZ) s) : ∀ (k i : Nat), i + k = N → ∀ (Q1 : (Nat → Nat → Int32)) (H : Heap) (locs : List Loc) (ls : Array Slot), va_P D classes (wM a cI cZ (nI N) (nI K) B Q1) H → va_S Z s.heap H locs → lv_has ls 2 [(0, .ref (a 0)), (1, .int (nI i))] → (∀ (H : Heap) (locs : List Loc) (ls : Array Slot), va_P D classes (wM a cI cZ (nI N) (nI K) B (m_looks_8 N K B k i Q1)) H → va_S Z s.heap H locs → lv_has ls 2 [(0, .ref (a 0))] → W p l e ({ frames := 6, cells := 0, slots := 0, locals := 134 } : Room) s m ([.ref (a 0)] : List Value).toArray below meth c H locs 0 0 Q0 (F0 m 50 ls [])) → W p l e ({ frames := 6, cells := 0, slots := 0, locals := 134 } : Room) s m ([.ref (a 0)] : List Value).toArray below meth c H locs 0 0 Q0 (F0 m 8 ls []) := by
  obtain ⟨hx, hb, hml, hown, hts⟩ := id Sx
  intro k
  induction k with
  | zero =>
    intro i hi Q1 H locs ls hP hS hl hk
    refine lv_iload_n hx hb d_M_looks_8 rfl (lv_at hl 1 rfl) ?_
    refine lv_aload_n hx hb d_M_looks_9 rfl (lv_at hl 0 rfl) ?_
    refine va_get (D := D) (ci := 1) (v := .int (nI N)) (C := R_M) (T := F_M) (N := 16) hx hb hts i_M hown hK hP 0 rfl rfl 0 (by decide) (hts _ fl_M_47) (fun _ h9 => h9) rfl d_M_looks_10 ?_
    refine lv_icmp_ge (tgt := 50) hx hb d_M_looks_13 (by decide) (fun c_13 => ?_) (fun c_13 => absurd (nI_le (a := N) (b := i) (by omega) (by omega)) c_13)
    have e_b : m_looks_8 N K B 0 i Q1 = Q1 := by rw [m_looks_8_0]
    rw [e_b] at hk
    exact hk _ _ ls hP hS (lv_sub hl [0] rfl)
  | succ k ih =>
    intro i hi Q1 H locs ls hP hS hl hk
    refine lv_iload_n hx hb d_M_looks_8 rfl (lv_at hl 1 rfl) ?_
    refine lv_aload_n hx hb d_M_looks_9 rfl (lv_at hl 0 rfl) ?_
    refine va_get (D := D) (ci := 1) (v := .int (nI N)) (C := R_M) (T := F_M) (N := 16) hx hb hts i_M hown hK hP 0 rfl rfl 0 (by decide) (hts _ fl_M_47) (fun _ h9 => h9) rfl d_M_looks_10 ?_
    refine lv_icmp_ge (tgt := 50) hx hb d_M_looks_13 (by decide) (fun c_13 => absurd c_13 (nI_ge (a := i) (b := N) (by omega) (by omega))) (fun c_13 => ?_)
    refine lv_aload_n hx hb d_M_looks_16 rfl (lv_at hl 0 rfl) ?_
    refine va_get (D := D) (ci := 1) (v := .ref (a 12)) (C := R_M) (T := F_M) (N := 16) hx hb hts i_M hown hK hP 0 rfl rfl 15 (by decide) (hts _ fl_M_44) (fun _ h9 => h9) rfl d_M_looks_17 ?_
    refine lv_iload_n hx hb d_M_looks_20 rfl (lv_at hl 1 rfl) ?_
    refine lv_aload_n hx hb d_M_looks_21 rfl (lv_at hl 0 rfl) ?_
    refine lv_iload_n hx hb d_M_looks_22 rfl (lv_at hl 1 rfl) ?_
    refine xro (As := [.int (nI i)]) (rest := [.int (nI i), .ref (a 12)]) Sx (cm_isSpace l D a cI cZ N K B Q1 hN hKK hC hDr (nI i)) v_M_isSpace ⟨rfl, rfl, Nat.le_of_ble_eq_true rfl, Nat.le_of_ble_eq_true rfl⟩ hK hP (ci := 1) (q0 := 0) rfl rfl rfl hl.1 rfl (Nat.le_of_ble_eq_true rfl) d_M_looks_23 ⟨Nat.le_of_ble_eq_true rfl, Nat.le_of_ble_eq_true rfl⟩ (fun r hq => ?_)
    subst hq
    refine lv_if_eq (tgt := 42) hx hb d_M_looks_26 (by decide) (fun c_26 => ?_) (fun c_26 => ?_)
    · refine lv_iconst (v := (0 : Int32)) hx hb d_M_looks_42 (by decide) ?_
      refine x_zastN (n := 30) hx hb hK hP (wM_D hD) hS 12 1 rfl rfl (by omega) (by omega) rfl d_M_looks_43 (fun H locs hP _ hS => ?_)
      have hP : va_P D classes (wM a cI cZ (nI N) (nI K) B (sU Q1 4 i (0 : Int32))) H := by have h9 := hP; rw [wM_s12] at h9; exact h9
      refine lv_iinc (v := nI (i + 1)) (lv' := [(1, .int (nI (i + 1))), (0, .ref (a 0))]) hx hb d_M_looks_44 hl (k := 1) rfl (nI_1 i) (by decide) rfl (fun ls hl => ?_)
      refine lv_goto (tgt := 8) hx hb d_M_looks_47 (by decide) ?_
      have e_b : m_looks_8 N K B (k + 1) i Q1 = m_looks_8 N K B k (i + 1) (sU Q1 4 i (0 : Int32)) := by rw [m_looks_8_S, if_pos c_26]
      rw [e_b] at hk
      exact ih (i + 1) (by omega) (sU Q1 4 i (0 : Int32)) _ _ ls hP hS (lv_sub hl [1, 0] rfl) hk
    · refine lv_aload_n hx hb d_M_looks_29 rfl (lv_at hl 0 rfl) ?_
      refine lv_iload_n hx hb d_M_looks_30 rfl (lv_at hl 1 rfl) ?_
      refine lv_iconst (v := (0 : Int32)) hx hb d_M_looks_31 (by decide) ?_
      refine xro (As := [.int (nI i), .int (0 : Int32)]) (rest := [.int (nI i), .ref (a 12)]) Sx (cm_greatest l D a cI cZ N K B Q1 hN hKK hC hDr (nI i) (0 : Int32) (⟨i, by omega, rfl⟩) (⟨0, by decide, rfl⟩)) v_M_greatest ⟨rfl, rfl, Nat.le_of_ble_eq_true rfl, Nat.le_of_ble_eq_true rfl⟩ hK hP (ci := 1) (q0 := 0) rfl rfl rfl hl.1 rfl (Nat.le_of_ble_eq_true rfl) d_M_looks_32 ⟨Nat.le_of_ble_eq_true rfl, Nat.le_of_ble_eq_true rfl⟩ (fun r hq => ?_)
      subst hq
      refine lv_if_le (tgt := 42) hx hb d_M_looks_35 (by decide) (fun c_35 => ?_) (fun c_35 => ?_)
      · refine lv_iconst (v := (0 : Int32)) hx hb d_M_looks_42 (by decide) ?_
        refine x_zastN (n := 30) hx hb hK hP (wM_D hD) hS 12 1 rfl rfl (by omega) (by omega) rfl d_M_looks_43 (fun H locs hP _ hS => ?_)
        have hP : va_P D classes (wM a cI cZ (nI N) (nI K) B (sU Q1 4 i (0 : Int32))) H := by have h9 := hP; rw [wM_s12] at h9; exact h9
        refine lv_iinc (v := nI (i + 1)) (lv' := [(1, .int (nI (i + 1))), (0, .ref (a 0))]) hx hb d_M_looks_44 hl (k := 1) rfl (nI_1 i) (by decide) rfl (fun ls hl => ?_)
        refine lv_goto (tgt := 8) hx hb d_M_looks_47 (by decide) ?_
        have e_b : m_looks_8 N K B (k + 1) i Q1 = m_looks_8 N K B k (i + 1) (sU Q1 4 i (0 : Int32)) := by rw [m_looks_8_S, if_neg c_26, if_pos c_35]
        rw [e_b] at hk
        exact ih (i + 1) (by omega) (sU Q1 4 i (0 : Int32)) _ _ ls hP hS (lv_sub hl [1, 0] rfl) hk
      · refine lv_iconst (v := (1 : Int32)) hx hb d_M_looks_38 (by decide) ?_
        refine lv_goto (tgt := 43) hx hb d_M_looks_39 (by decide) ?_
        refine x_zastN (n := 30) hx hb hK hP (wM_D hD) hS 12 1 rfl rfl (by omega) (by omega) rfl d_M_looks_43 (fun H locs hP _ hS => ?_)
        have hP : va_P D classes (wM a cI cZ (nI N) (nI K) B (sU Q1 4 i (1 : Int32))) H := by have h9 := hP; rw [wM_s12] at h9; exact h9
        refine lv_iinc (v := nI (i + 1)) (lv' := [(1, .int (nI (i + 1))), (0, .ref (a 0))]) hx hb d_M_looks_44 hl (k := 1) rfl (nI_1 i) (by decide) rfl (fun ls hl => ?_)
        refine lv_goto (tgt := 8) hx hb d_M_looks_47 (by decide) ?_
        have e_b : m_looks_8 N K B (k + 1) i Q1 = m_looks_8 N K B k (i + 1) (sU Q1 4 i (1 : Int32)) := by rw [m_looks_8_S, if_neg c_26, if_neg c_35]
        rw [e_b] at hk
        exact ih (i + 1) (by omega) (sU Q1 4 i (1 : Int32)) _ _ ls hP hS (lv_sub hl [1, 0] rfl) hk
def m_looks_58 (N : Nat) (K : Nat) (B : Nat → Nat → Int32) : Nat → Nat → (Nat → Nat → Int32) → (Nat → Nat → Int32)
  | 0, i, Q1 => Q1
  | k + 1, i, Q1 => (if (1000 : Int32) ≤ (Q1 2 i) then m_looks_58 N K B k (i + 1) (sU Q1 3 i (0 : Int32)) else m_looks_58 N K B k (i + 1) (sU Q1 3 i (1 : Int32)))
theorem m_looks_58_0 (N : Nat) (K : Nat) (B : Nat → Nat → Int32) (i : Nat) (Q1 : (Nat → Nat → Int32)) : m_looks_58 N K B 0 i Q1 = Q1 := rfl
theorem m_looks_58_S (N : Nat) (K : Nat) (B : Nat → Nat → Int32) (k : Nat) (i : Nat) (Q1 : (Nat → Nat → Int32)) : m_looks_58 N K B (k + 1) i Q1 = (if (1000 : Int32) ≤ (Q1 2 i) then m_looks_58 N K B k (i + 1) (sU Q1 3 i (0 : Int32)) else m_looks_58 N K B k (i + 1) (sU Q1 3 i (1 : Int32))) := rfl
set_option maxHeartbeats 4000000 in
set_option maxRecDepth 100000 in
theorem wm_looks_58 (l : Launch) (D : va_G) (a : Nat → Nat) (cI cZ : ClassId) (N K : Nat) (B Q : Nat → Nat → Int32) (hN : N ≤ 30) (hKK : K ≤ 10) (hC : chs N B) (hDr : drM N K B) (Z : Nat → Prop) {p : Program} {e : Env} {s : State} {m : MethodId} {below : List Frame} {meth : Method} {c : Code} (Sx : CallFix p m c b_M_looks 2 s ([.ref (a 0)] : List Value).toArray BW R_M) (hr : meth.sig.returnType = none) (hlk : meth.locks = false) (hD : va_D Z (wM a cI cZ (nI N) (nI K) B Q)) (hK : va_K D classes (tM cI cZ) s) : ∀ (k i : Nat), i + k = 900 → ∀ (Q1 : (Nat → Nat → Int32)) (H : Heap) (locs : List Loc) (ls : Array Slot), va_P D classes (wM a cI cZ (nI N) (nI K) B Q1) H → va_S Z s.heap H locs → lv_has ls 2 [(0, .ref (a 0)), (1, .int (nI i))] → W p l e ({ frames := 6, cells := 0, slots := 0, locals := 134 } : Room) s m ([.ref (a 0)] : List Value).toArray below meth c H locs 0 0 (MQ below (va_Qv (fun u => u = m_looks_58 N K B k i Q1) (atW D (fun u => wM a cI cZ (nI N) (nI K) B u) (tM cI cZ)) Z) ([.ref (a 0)] : List Value).toArray s 0 0 Z) (F0 m 58 ls []) := by
  obtain ⟨hx, hb, hml, hown, hts⟩ := id Sx
  intro k
  induction k with
  | zero =>
    intro i hi Q1 H locs ls hP hS hl
    refine lv_iload_n hx hb d_M_looks_58 rfl (lv_at hl 1 rfl) ?_
    refine lv_sipush (v := (900 : Int32)) hx hb d_M_looks_59 (by decide) ?_
    refine lv_icmp_ge (tgt := 94) hx hb d_M_looks_62 (by decide) (fun c_62 => ?_) (fun c_62 => absurd (nI_le (a := 900) (b := i) (by omega) (by omega)) c_62)
    exact wRetV (u := Q1) hx hb hr hlk (show Q1 = m_looks_58 N K B 0 i Q1 from by rw [m_looks_58_0]) hP hK hS d_M_looks_94
  | succ k ih =>
    intro i hi Q1 H locs ls hP hS hl
    refine lv_iload_n hx hb d_M_looks_58 rfl (lv_at hl 1 rfl) ?_
    refine lv_sipush (v := (900 : Int32)) hx hb d_M_looks_59 (by decide) ?_
    refine lv_icmp_ge (tgt := 94) hx hb d_M_looks_62 (by decide) (fun c_62 => absurd c_62 (nI_ge (a := i) (b := 900) (by omega) (by omega))) (fun c_62 => ?_)
    refine lv_aload_n hx hb d_M_looks_65 rfl (lv_at hl 0 rfl) ?_
    refine va_get (D := D) (ci := 1) (v := .ref (a 11)) (C := R_M) (T := F_M) (N := 16) hx hb hts i_M hown hK hP 0 rfl rfl 14 (by decide) (hts _ fl_M_40) (fun _ h9 => h9) rfl d_M_looks_66 ?_
    refine lv_iload_n hx hb d_M_looks_69 rfl (lv_at hl 1 rfl) ?_
    refine lv_aload_n hx hb d_M_looks_70 rfl (lv_at hl 0 rfl) ?_
    refine va_get (D := D) (ci := 1) (v := .ref (a 10)) (C := R_M) (T := F_M) (N := 16) hx hb hts i_M hown hK hP 0 rfl rfl 13 (by decide) (hts _ fl_M_37) (fun _ h9 => h9) rfl d_M_looks_71 ?_
    refine lv_iload_n hx hb d_M_looks_74 rfl (lv_at hl 1 rfl) ?_
    refine x_ialdN (n := 900) hx hb hK hP 10 0 rfl rfl (by omega) (by omega) d_M_looks_75 ?_
    refine lv_sipush (v := (1000 : Int32)) hx hb d_M_looks_76 (by decide) ?_
    refine lv_icmp_ge (tgt := 86) hx hb d_M_looks_79 (by decide) (fun c_79 => ?_) (fun c_79 => ?_)
    · refine lv_iconst (v := (0 : Int32)) hx hb d_M_looks_86 (by decide) ?_
      refine x_zastN (n := 900) hx hb hK hP (wM_D hD) hS 11 1 rfl rfl (by omega) (by omega) rfl d_M_looks_87 (fun H locs hP _ hS => ?_)
      have hP : va_P D classes (wM a cI cZ (nI N) (nI K) B (sU Q1 3 i (0 : Int32))) H := by have h9 := hP; rw [wM_s11] at h9; exact h9
      refine lv_iinc (v := nI (i + 1)) (lv' := [(1, .int (nI (i + 1))), (0, .ref (a 0))]) hx hb d_M_looks_88 hl (k := 1) rfl (nI_1 i) (by decide) rfl (fun ls hl => ?_)
      refine lv_goto (tgt := 58) hx hb d_M_looks_91 (by decide) ?_
      have e_b : m_looks_58 N K B (k + 1) i Q1 = m_looks_58 N K B k (i + 1) (sU Q1 3 i (0 : Int32)) := by rw [m_looks_58_S, if_pos c_79]
      rw [e_b]
      exact ih (i + 1) (by omega) (sU Q1 3 i (0 : Int32)) _ _ ls hP hS (lv_sub hl [1, 0] rfl)
    · refine lv_iconst (v := (1 : Int32)) hx hb d_M_looks_82 (by decide) ?_
      refine lv_goto (tgt := 87) hx hb d_M_looks_83 (by decide) ?_
      refine x_zastN (n := 900) hx hb hK hP (wM_D hD) hS 11 1 rfl rfl (by omega) (by omega) rfl d_M_looks_87 (fun H locs hP _ hS => ?_)
      have hP : va_P D classes (wM a cI cZ (nI N) (nI K) B (sU Q1 3 i (1 : Int32))) H := by have h9 := hP; rw [wM_s11] at h9; exact h9
      refine lv_iinc (v := nI (i + 1)) (lv' := [(1, .int (nI (i + 1))), (0, .ref (a 0))]) hx hb d_M_looks_88 hl (k := 1) rfl (nI_1 i) (by decide) rfl (fun ls hl => ?_)
      refine lv_goto (tgt := 58) hx hb d_M_looks_91 (by decide) ?_
      have e_b : m_looks_58 N K B (k + 1) i Q1 = m_looks_58 N K B k (i + 1) (sU Q1 3 i (1 : Int32)) := by rw [m_looks_58_S, if_neg c_79]
      rw [e_b]
      exact ih (i + 1) (by omega) (sU Q1 3 i (1 : Int32)) _ _ ls hP hS (lv_sub hl [1, 0] rfl)
def m_looks (N : Nat) (K : Nat) (B : Nat → Nat → Int32) (Q : Nat → Nat → Int32) : (Nat → Nat → Int32) := m_looks_58 N K B 900 0 (m_findLosses N K B (m_looks_8 N K B N 0 (m_findLosses N K B Q (0 : Int32) (1 : Int32))) (0 : Int32) (0 : Int32))
set_option maxHeartbeats 4000000 in
set_option maxRecDepth 100000 in
theorem cm_looks (l : Launch) (D : va_G) (a : Nat → Nat) (cI cZ : ClassId) (N K : Nat) (B Q : Nat → Nat → Int32) (hN : N ≤ 30) (hKK : K ≤ 10) (hC : chs N B) (hDr : drM N K B) (Z : Nat → Prop) : Met l y_M_looks (Cond.code y_M_looks b_M_looks 2 none :: BW) ({ frames := 6, cells := 0, slots := 0, locals := 134 } : Room) (PcW D Z (wM a cI cZ (nI N) (nI K) B Q) (tM cI cZ) [.ref (a 0)]) (va_Qv (fun u => u = m_looks N K B Q) (atW D (fun u => wM a cI cZ (nI N) (nI K) B u) (tM cI cZ)) Z) 0 0 Z := by
  refine wStartV (by decide) rfl (Nat.le_of_ble_eq_true rfl) (fun p e s m below meth c Sx hr hlk hP hK hD hS ls hl => ?_)
  obtain ⟨hx, hb, hml, hown, hts⟩ := id Sx
  have hl : lv_has ls 2 [(0, .ref (a 0))] := hl
  refine lv_aload_n hx hb d_M_looks_0 rfl (lv_at hl 0 rfl) ?_
  refine lv_iconst (v := (0 : Int32)) hx hb d_M_looks_1 (by decide) ?_
  refine lv_iconst (v := (1 : Int32)) hx hb d_M_looks_2 (by decide) ?_
  refine xwv (As := [.int (0 : Int32), .int (1 : Int32)]) (rest := []) Sx (cm_findLosses l D a cI cZ N K B Q hN hKK hC hDr Z (0 : Int32) (1 : Int32)) v_M_findLosses ⟨rfl, rfl, Nat.le_of_ble_eq_true rfl, Nat.le_of_ble_eq_true rfl⟩ hK hP (ci := 1) (q0 := 0) rfl rfl (wM_D hD) hS (fun _ h => h) rfl hl.1 rfl (Nat.le_of_ble_eq_true rfl) d_M_looks_3 ⟨Nat.le_of_ble_eq_true rfl, Nat.le_of_ble_eq_true rfl⟩ (fun u H locs hu hP hS => ?_)
  subst hu
  have hP : va_P D classes (wM a cI cZ (nI N) (nI K) B (m_findLosses N K B Q (0 : Int32) (1 : Int32))) H := hP
  refine lv_iconst (v := (0 : Int32)) hx hb d_M_looks_6 (by decide) ?_
  refine lv_istore_n (lv' := [(1, .int (0 : Int32)), (0, .ref (a 0))]) hx hb d_M_looks_7 rfl hl (by decide) rfl (fun ls hl => ?_)
  refine wm_looks_8 l D a cI cZ N K B Q hN hKK hC hDr Z Sx (wM_D hD) hK N 0 (by omega) (m_findLosses N K B Q (0 : Int32) (1 : Int32)) _ _ ls hP hS (lv_sub hl [1, 0] rfl) (fun H locs ls hP hS hl => ?_)
  refine lv_aload_n hx hb d_M_looks_50 rfl (lv_at hl 0 rfl) ?_
  refine lv_iconst (v := (0 : Int32)) hx hb d_M_looks_51 (by decide) ?_
  refine lv_iconst (v := (0 : Int32)) hx hb d_M_looks_52 (by decide) ?_
  refine xwv (As := [.int (0 : Int32), .int (0 : Int32)]) (rest := []) Sx (cm_findLosses l D a cI cZ N K B (m_looks_8 N K B N 0 (m_findLosses N K B Q (0 : Int32) (1 : Int32))) hN hKK hC hDr Z (0 : Int32) (0 : Int32)) v_M_findLosses ⟨rfl, rfl, Nat.le_of_ble_eq_true rfl, Nat.le_of_ble_eq_true rfl⟩ hK hP (ci := 1) (q0 := 0) rfl rfl (wM_D hD) hS (fun _ h => h) rfl hl.1 rfl (Nat.le_of_ble_eq_true rfl) d_M_looks_53 ⟨Nat.le_of_ble_eq_true rfl, Nat.le_of_ble_eq_true rfl⟩ (fun u H locs hu hP hS => ?_)
  subst hu
  have hP : va_P D classes (wM a cI cZ (nI N) (nI K) B (m_findLosses N K B (m_looks_8 N K B N 0 (m_findLosses N K B Q (0 : Int32) (1 : Int32))) (0 : Int32) (0 : Int32))) H := hP
  refine lv_iconst (v := (0 : Int32)) hx hb d_M_looks_56 (by decide) ?_
  refine lv_istore_n (lv' := [(1, .int (0 : Int32)), (0, .ref (a 0))]) hx hb d_M_looks_57 rfl hl (by decide) rfl (fun ls hl => ?_)
  have e_58 : m_looks N K B Q = m_looks_58 N K B 900 0 (m_findLosses N K B (m_looks_8 N K B N 0 (m_findLosses N K B Q (0 : Int32) (1 : Int32))) (0 : Int32) (0 : Int32)) := by rw [m_looks]
  rw [e_58]
  exact wm_looks_58 l D a cI cZ N K B Q hN hKK hC hDr Z Sx hr hlk (wM_D hD) hK 900 0 (by omega) (m_findLosses N K B (m_looks_8 N K B N 0 (m_findLosses N K B Q (0 : Int32) (1 : Int32))) (0 : Int32) (0 : Int32)) _ _ ls hP hS (lv_sub hl [1, 0] rfl)
theorem looks_58_01 {N K : Nat} {B : Nat → Nat → Int32} : ∀ (k i : Nat) (Q : Nat → Nat → Int32), i + k = 900 → (∀ j : Nat, j < i → Q 3 j = (0 : Int32) ∨ Q 3 j = (1 : Int32)) → q01 (m_looks_58 N K B k i Q) := by
  intro k
  induction k with
  | zero => intro i Q hi h j hj; exact h j (by omega)
  | succ k ih =>
    intro i Q hi h
    rw [m_looks_58_S]
    by_cases c : (1000 : Int32) ≤ Q 2 i
    · rw [if_pos c]
      refine ih (i + 1) _ (by omega) (fun j hj => ?_)
      rw [sU_same]
      by_cases e : j = i
      · subst e; rw [pk_us]; exact Or.inl rfl
      · rw [pk_un e]; exact h j (by omega)
    · rw [if_neg c]
      refine ih (i + 1) _ (by omega) (fun j hj => ?_)
      rw [sU_same]
      by_cases e : j = i
      · subst e; rw [pk_us]; exact Or.inr rfl
      · rw [pk_un e]; exact h j (by omega)
theorem looks_01 {N K : Nat} {B Q : Nat → Nat → Int32} : q01 (m_looks N K B Q) := looks_58_01 900 0 _ (by omega) (fun j hj => by omega)

def m_thing_46 (N : Nat) (K : Nat) (Q : Nat → Nat → Int32) : Nat → Nat → (Nat → Nat → Int32) → Int32 × Nat × Nat × (Nat → Nat → Int32) × (Nat → Nat → Int32)
  | 0, i, B1 => ((nI (N + 1)) - (1 : Int32), (N + 1, K, B1, Q))
  | k + 1, i, B1 => m_thing_46 N K Q k (i + 1) (sU B1 2 ((4 * N) + i) (0 : Int32))
theorem m_thing_46_0 (N : Nat) (K : Nat) (Q : Nat → Nat → Int32) (i : Nat) (B1 : (Nat → Nat → Int32)) : m_thing_46 N K Q 0 i B1 = ((nI (N + 1)) - (1 : Int32), (N + 1, K, B1, Q)) := rfl
theorem m_thing_46_S (N : Nat) (K : Nat) (Q : Nat → Nat → Int32) (k : Nat) (i : Nat) (B1 : (Nat → Nat → Int32)) : m_thing_46 N K Q (k + 1) i B1 = m_thing_46 N K Q k (i + 1) (sU B1 2 ((4 * N) + i) (0 : Int32)) := rfl
set_option maxHeartbeats 4000000 in
set_option maxRecDepth 100000 in
theorem wm_thing_46 (l : Launch) (D : va_G) (a : Nat → Nat) (cI cZ : ClassId) (N K : Nat) (B Q : Nat → Nat → Int32) (hN : N ≤ 30) (hKK : K ≤ 10) (hC : chs N B) (hDr : drM N K B) (Z : Nat → Prop) (srt : Int32) (hN3 : N < 30) {p : Program} {e : Env} {s : State} {m : MethodId} {below : List Frame} {meth : Method} {c : Code} (Sx : CallFix p m c b_M_thing 3 s ([.ref (a 0), .int srt] : List Value).toArray BW R_M) (hr : meth.sig.returnType = (some .int)) (hlk : meth.locks = false) (hD : va_D Z (wM a cI cZ (nI N) (nI K) B Q)) (hK : va_K D classes (tM cI cZ) s) : ∀ (k i : Nat), i + k = 4 → ∀ (B1 : (Nat → Nat → Int32)) (H : Heap) (locs : List Loc) (ls : Array Slot), va_P D classes (wM a cI cZ (nI N) (nI K) B1 Q) H → va_S Z s.heap H locs → lv_has ls 3 [(0, .ref (a 0)), (1, .int srt), (2, .int (nI i))] → W p l e ({ frames := 1, cells := 0, slots := 0, locals := 22 } : Room) s m ([.ref (a 0), .int srt] : List Value).toArray below meth c H locs 0 0 (MQ below (va_Qi (fun r u => r = (m_thing_46 N K Q k i B1).1 ∧ u = (m_thing_46 N K Q k i B1).2) (atW D (fun u => wM a cI cZ (nI u.1) (nI u.2.1) u.2.2.1 u.2.2.2) (tM cI cZ)) Z) ([.ref (a 0), .int srt] : List Value).toArray s 0 0 Z) (F0 m 46 ls []) := by
  obtain ⟨hx, hb, hml, hown, hts⟩ := id Sx
  intro k
  induction k with
  | zero =>
    intro i hi B1 H locs ls hP hS hl
    refine lv_iload_n hx hb d_M_thing_46 rfl (lv_at hl 2 rfl) ?_
    refine lv_iconst (v := (4 : Int32)) hx hb d_M_thing_47 (by decide) ?_
    refine lv_icmp_ge (tgt := 71) hx hb d_M_thing_48 (by decide) (fun c_48 => ?_) (fun c_48 => absurd (nI_le (a := 4) (b := i) (by omega) (by omega)) c_48)
    refine lv_aload_n hx hb d_M_thing_71 rfl (lv_at hl 0 rfl) ?_
    refine lv_dup hx hb d_M_thing_72 rfl ?_
    refine va_get (D := D) (ci := 1) (v := .int (nI N)) (C := R_M) (T := F_M) (N := 16) hx hb hts i_M hown hK hP 0 rfl rfl 0 (by decide) (hts _ fl_M_47) (fun _ h9 => h9) rfl d_M_thing_73 ?_
    refine lv_iconst (v := (1 : Int32)) hx hb d_M_thing_76 (by decide) ?_
    refine x_iadd1 hx hb d_M_thing_77 ?_
    refine va_put (D := D) (ci := 1) (v := .int (nI (N + 1))) (ty := .int) (C := R_M) (T := F_M) (N := 16) hx hb hts i_M t_M t_M_ok n_M hown hK hP (wM_D hD) hS 0 rfl rfl 0 (by decide) (hts _ fl_M_47) (fun _ h9 => h9) rfl (by decide +kernel) rfl rfl (Nat.le_of_ble_eq_true rfl) d_M_thing_78 (fun H locs hP _ hS => ?_)
    have hP : va_P D classes (wM a cI cZ (nI (N + 1)) (nI K) B1 Q) H := hP
    refine lv_aload_n hx hb d_M_thing_81 rfl (lv_at hl 0 rfl) ?_
    refine va_get (D := D) (ci := 1) (v := .int (nI (N + 1))) (C := R_M) (T := F_M) (N := 16) hx hb hts i_M hown hK hP 0 rfl rfl 0 (by decide) (hts _ fl_M_47) (fun _ h9 => h9) rfl d_M_thing_82 ?_
    refine lv_iconst (v := (1 : Int32)) hx hb d_M_thing_85 (by decide) ?_
    refine lv_isub hx hb d_M_thing_86 ?_
    exact wRet (u := (N + 1, K, B1, Q)) hx hb hr rfl hlk (show (nI (N + 1)) - (1 : Int32) = (m_thing_46 N K Q 0 i B1).1 ∧ (N + 1, K, B1, Q) = (m_thing_46 N K Q 0 i B1).2 from by rw [m_thing_46_0]; exact ⟨rfl, rfl⟩) hP hK hS d_M_thing_87
  | succ k ih =>
    intro i hi B1 H locs ls hP hS hl
    refine lv_iload_n hx hb d_M_thing_46 rfl (lv_at hl 2 rfl) ?_
    refine lv_iconst (v := (4 : Int32)) hx hb d_M_thing_47 (by decide) ?_
    refine lv_icmp_ge (tgt := 71) hx hb d_M_thing_48 (by decide) (fun c_48 => absurd c_48 (nI_ge (a := i) (b := 4) (by omega) (by omega))) (fun c_48 => ?_)
    refine lv_aload_n hx hb d_M_thing_51 rfl (lv_at hl 0 rfl) ?_
    refine va_get (D := D) (ci := 1) (v := .ref (a 3)) (C := R_M) (T := F_M) (N := 16) hx hb hts i_M hown hK hP 0 rfl rfl 3 (by decide) (hts _ fl_M_16) (fun _ h9 => h9) rfl d_M_thing_52 ?_
    refine lv_iconst (v := (4 : Int32)) hx hb d_M_thing_55 (by decide) ?_
    refine lv_aload_n hx hb d_M_thing_56 rfl (lv_at hl 0 rfl) ?_
    refine va_get (D := D) (ci := 1) (v := .int (nI N)) (C := R_M) (T := F_M) (N := 16) hx hb hts i_M hown hK hP 0 rfl rfl 0 (by decide) (hts _ fl_M_47) (fun _ h9 => h9) rfl d_M_thing_57 ?_
    refine x_imulN 4 N rfl rfl hx hb d_M_thing_60 ?_
    refine lv_iload_n hx hb d_M_thing_61 rfl (lv_at hl 2 rfl) ?_
    refine x_iaddN (4 * N) i rfl rfl hx hb d_M_thing_62 ?_
    refine lv_iconst (v := (0 : Int32)) hx hb d_M_thing_63 (by decide) ?_
    refine x_iastN (n := 120) hx hb hK hP (wM_D hD) hS 3 0 rfl rfl (by omega) (by omega) d_M_thing_64 (fun H locs hP _ hS => ?_)
    have hP : va_P D classes (wM a cI cZ (nI N) (nI K) (sU B1 2 ((4 * N) + i) (0 : Int32)) Q) H := by have h9 := hP; rw [wM_s3] at h9; exact h9
    refine lv_iinc (v := nI (i + 1)) (lv' := [(2, .int (nI (i + 1))), (0, .ref (a 0)), (1, .int srt)]) hx hb d_M_thing_65 hl (k := 2) rfl (nI_1 i) (by decide) rfl (fun ls hl => ?_)
    refine lv_goto (tgt := 46) hx hb d_M_thing_68 (by decide) ?_
    have e_b : m_thing_46 N K Q (k + 1) i B1 = m_thing_46 N K Q k (i + 1) (sU B1 2 ((4 * N) + i) (0 : Int32)) := by rw [m_thing_46_S]
    rw [e_b]
    exact ih (i + 1) (by omega) (sU B1 2 ((4 * N) + i) (0 : Int32)) _ _ ls hP hS (lv_sub hl [1, 2, 0] rfl)
def m_thing (N : Nat) (K : Nat) (B : Nat → Nat → Int32) (Q : Nat → Nat → Int32) (srt : Int32) : Int32 × Nat × Nat × (Nat → Nat → Int32) × (Nat → Nat → Int32) := (if (m_in srt (0 : Int32) (4 : Int32)) = (0 : Int32) then ((-3 : Int32), (N, K, B, Q)) else (if (nI N) = (30 : Int32) then ((-7 : Int32), (N, K, B, Q)) else m_thing_46 N K Q 4 0 (sU (sU B 0 N srt) 1 N (-1 : Int32))))
set_option maxHeartbeats 4000000 in
set_option maxRecDepth 100000 in
theorem cm_thing (l : Launch) (D : va_G) (a : Nat → Nat) (cI cZ : ClassId) (N K : Nat) (B Q : Nat → Nat → Int32) (hN : N ≤ 30) (hKK : K ≤ 10) (hC : chs N B) (hDr : drM N K B) (Z : Nat → Prop) (srt : Int32) : Met l y_M_thing (Cond.code y_M_thing b_M_thing 3 (some .int) :: BW) ({ frames := 1, cells := 0, slots := 0, locals := 22 } : Room) (PcW D Z (wM a cI cZ (nI N) (nI K) B Q) (tM cI cZ) [.ref (a 0), .int srt]) (va_Qi (fun r u => r = (m_thing N K B Q srt).1 ∧ u = (m_thing N K B Q srt).2) (atW D (fun u => wM a cI cZ (nI u.1) (nI u.2.1) u.2.2.1 u.2.2.2) (tM cI cZ)) Z) 0 0 Z := by
  refine wStart (by decide) rfl (Nat.le_of_ble_eq_true rfl) (fun p e s m below meth c Sx hr hlk hP hK hD hS ls hl => ?_)
  obtain ⟨hx, hb, hml, hown, hts⟩ := id Sx
  have hl : lv_has ls 3 [(0, .ref (a 0)), (1, .int srt)] := hl
  refine lv_iload_n hx hb d_M_thing_0 rfl (lv_at hl 1 rfl) ?_
  refine lv_iconst (v := (0 : Int32)) hx hb d_M_thing_1 (by decide) ?_
  refine lv_iconst (v := (4 : Int32)) hx hb d_M_thing_2 (by decide) ?_
  refine xst (As := [.int srt, .int (0 : Int32), .int (4 : Int32)]) (rest := []) Sx (cm_in l srt (0 : Int32) (4 : Int32)) v_M_in ⟨rfl, rfl, Nat.le_of_ble_eq_true rfl, Nat.le_of_ble_eq_true rfl⟩ rfl hl.1 rfl (Nat.le_of_ble_eq_true rfl) d_M_thing_3 ⟨Nat.le_of_ble_eq_true rfl, Nat.le_of_ble_eq_true rfl⟩ (fun r hq => ?_)
  subst hq
  refine lv_if_ne (tgt := 12) hx hb d_M_thing_6 (by decide) (fun c_6 => ?_) (fun c_6 => ?_)
  · refine lv_aload_n hx hb d_M_thing_12 rfl (lv_at hl 0 rfl) ?_
    refine va_get (D := D) (ci := 1) (v := .int (nI N)) (C := R_M) (T := F_M) (N := 16) hx hb hts i_M hown hK hP 0 rfl rfl 0 (by decide) (hts _ fl_M_47) (fun _ h9 => h9) rfl d_M_thing_13 ?_
    refine lv_bipush (v := (30 : Int32)) hx hb d_M_thing_16 (by decide) ?_
    refine lv_icmp_ne (tgt := 24) hx hb d_M_thing_18 (by decide) (fun c_18 => ?_) (fun c_18 => ?_)
    · refine lv_aload_n hx hb d_M_thing_24 rfl (lv_at hl 0 rfl) ?_
      refine va_get (D := D) (ci := 1) (v := .ref (a 1)) (C := R_M) (T := F_M) (N := 16) hx hb hts i_M hown hK hP 0 rfl rfl 1 (by decide) (hts _ fl_M_7) (fun _ h9 => h9) rfl d_M_thing_25 ?_
      refine lv_aload_n hx hb d_M_thing_28 rfl (lv_at hl 0 rfl) ?_
      refine va_get (D := D) (ci := 1) (v := .int (nI N)) (C := R_M) (T := F_M) (N := 16) hx hb hts i_M hown hK hP 0 rfl rfl 0 (by decide) (hts _ fl_M_47) (fun _ h9 => h9) rfl d_M_thing_29 ?_
      refine lv_iload_n hx hb d_M_thing_32 rfl (lv_at hl 1 rfl) ?_
      refine x_iastN (n := 30) hx hb hK hP (wM_D hD) hS 1 0 rfl rfl (lt30 hN c_18) (by omega) d_M_thing_33 (fun H locs hP _ hS => ?_)
      have hP : va_P D classes (wM a cI cZ (nI N) (nI K) (sU B 0 N srt) Q) H := by have h9 := hP; rw [wM_s1] at h9; exact h9
      refine lv_aload_n hx hb d_M_thing_34 rfl (lv_at hl 0 rfl) ?_
      refine va_get (D := D) (ci := 1) (v := .ref (a 2)) (C := R_M) (T := F_M) (N := 16) hx hb hts i_M hown hK hP 0 rfl rfl 2 (by decide) (hts _ fl_M_13) (fun _ h9 => h9) rfl d_M_thing_35 ?_
      refine lv_aload_n hx hb d_M_thing_38 rfl (lv_at hl 0 rfl) ?_
      refine va_get (D := D) (ci := 1) (v := .int (nI N)) (C := R_M) (T := F_M) (N := 16) hx hb hts i_M hown hK hP 0 rfl rfl 0 (by decide) (hts _ fl_M_47) (fun _ h9 => h9) rfl d_M_thing_39 ?_
      refine lv_iconst (v := (-1 : Int32)) hx hb d_M_thing_42 (by decide) ?_
      refine x_iastN (n := 30) hx hb hK hP (wM_D hD) hS 2 0 rfl rfl (lt30 hN c_18) (by omega) d_M_thing_43 (fun H locs hP _ hS => ?_)
      have hP : va_P D classes (wM a cI cZ (nI N) (nI K) (sU (sU B 0 N srt) 1 N (-1 : Int32)) Q) H := by have h9 := hP; rw [wM_s2] at h9; exact h9
      refine lv_iconst (v := (0 : Int32)) hx hb d_M_thing_44 (by decide) ?_
      refine lv_istore_n (lv' := [(2, .int (0 : Int32)), (0, .ref (a 0)), (1, .int srt)]) hx hb d_M_thing_45 rfl hl (by decide) rfl (fun ls hl => ?_)
      have e_46 : m_thing N K B Q srt = m_thing_46 N K Q 4 0 (sU (sU B 0 N srt) 1 N (-1 : Int32)) := by rw [m_thing, if_neg c_6, if_neg c_18]
      rw [e_46]
      exact wm_thing_46 l D a cI cZ N K B Q hN hKK hC hDr Z srt (lt30 hN c_18) Sx hr hlk (wM_D hD) hK 4 0 (by omega) (sU (sU B 0 N srt) 1 N (-1 : Int32)) _ _ ls hP hS (lv_sub hl [1, 2, 0] rfl)
    · refine lv_bipush (v := (-7 : Int32)) hx hb d_M_thing_21 (by decide) ?_
      exact wRet (u := (N, K, B, Q)) hx hb hr rfl hlk (show (-7 : Int32) = (m_thing N K B Q srt).1 ∧ (N, K, B, Q) = (m_thing N K B Q srt).2 from by rw [m_thing, if_neg c_6, if_pos c_18]; exact ⟨rfl, rfl⟩) hP hK hS d_M_thing_23
  · refine lv_bipush (v := (-3 : Int32)) hx hb d_M_thing_9 (by decide) ?_
    exact wRet (u := (N, K, B, Q)) hx hb hr rfl hlk (show (-3 : Int32) = (m_thing N K B Q srt).1 ∧ (N, K, B, Q) = (m_thing N K B Q srt).2 from by rw [m_thing, if_pos c_6]; exact ⟨rfl, rfl⟩) hP hK hS d_M_thing_11

def m_clear (N : Nat) (K : Nat) (B : Nat → Nat → Int32) (Q : Nat → Nat → Int32) : Int32 × Nat × Nat × (Nat → Nat → Int32) × (Nat → Nat → Int32) := (nI N, (0, 0, B, Q))
set_option maxHeartbeats 4000000 in
set_option maxRecDepth 100000 in
theorem cm_clear (l : Launch) (D : va_G) (a : Nat → Nat) (cI cZ : ClassId) (N K : Nat) (B Q : Nat → Nat → Int32) (hN : N ≤ 30) (hKK : K ≤ 10) (hC : chs N B) (hDr : drM N K B) (Z : Nat → Prop) : Met l y_M_clear (Cond.code y_M_clear b_M_clear 2 (some .int) :: BW) ({ frames := 0, cells := 0, slots := 0, locals := 0 } : Room) (PcW D Z (wM a cI cZ (nI N) (nI K) B Q) (tM cI cZ) [.ref (a 0)]) (va_Qi (fun r u => r = (m_clear N K B Q).1 ∧ u = (m_clear N K B Q).2) (atW D (fun u => wM a cI cZ (nI u.1) (nI u.2.1) u.2.2.1 u.2.2.2) (tM cI cZ)) Z) 0 0 Z := by
  refine wStart (by decide) rfl (Nat.le_of_ble_eq_true rfl) (fun p e s m below meth c Sx hr hlk hP hK hD hS ls hl => ?_)
  obtain ⟨hx, hb, hml, hown, hts⟩ := id Sx
  have hl : lv_has ls 2 [(0, .ref (a 0))] := hl
  refine lv_aload_n hx hb d_M_clear_0 rfl (lv_at hl 0 rfl) ?_
  refine va_get (D := D) (ci := 1) (v := .int (nI N)) (C := R_M) (T := F_M) (N := 16) hx hb hts i_M hown hK hP 0 rfl rfl 0 (by decide) (hts _ fl_M_47) (fun _ h9 => h9) rfl d_M_clear_1 ?_
  refine lv_istore_n (lv' := [(1, .int (nI N)), (0, .ref (a 0))]) hx hb d_M_clear_4 rfl hl (by decide) rfl (fun ls hl => ?_)
  refine lv_aload_n hx hb d_M_clear_5 rfl (lv_at hl 1 rfl) ?_
  refine lv_iconst (v := (0 : Int32)) hx hb d_M_clear_6 (by decide) ?_
  refine va_put (D := D) (ci := 1) (v := .int (0 : Int32)) (ty := .int) (C := R_M) (T := F_M) (N := 16) hx hb hts i_M t_M t_M_ok n_M hown hK hP (wM_D hD) hS 0 rfl rfl 0 (by decide) (hts _ fl_M_47) (fun _ h9 => h9) rfl (by decide +kernel) rfl rfl (Nat.le_of_ble_eq_true rfl) d_M_clear_7 (fun H locs hP _ hS => ?_)
  have hP : va_P D classes (wM a cI cZ (nI 0) (nI K) B Q) H := hP
  refine lv_aload_n hx hb d_M_clear_10 rfl (lv_at hl 1 rfl) ?_
  refine lv_iconst (v := (0 : Int32)) hx hb d_M_clear_11 (by decide) ?_
  refine va_put (D := D) (ci := 1) (v := .int (0 : Int32)) (ty := .int) (C := R_M) (T := F_M) (N := 16) hx hb hts i_M t_M t_M_ok n_M hown hK hP (wM_D hD) hS 0 rfl rfl 4 (by decide) (hts _ fl_M_63) (fun _ h9 => h9) rfl (by decide +kernel) rfl rfl (Nat.le_of_ble_eq_true rfl) d_M_clear_12 (fun H locs hP _ hS => ?_)
  have hP : va_P D classes (wM a cI cZ (nI 0) (nI 0) B Q) H := hP
  refine lv_iload_n hx hb d_M_clear_15 rfl (lv_at hl 0 rfl) ?_
  exact wRet (u := (0, 0, B, Q)) hx hb hr rfl hlk (show nI N = (m_clear N K B Q).1 ∧ (0, 0, B, Q) = (m_clear N K B Q).2 from by rw [m_clear]; exact ⟨rfl, rfl⟩) hP hK hS d_M_clear_16

def m_put (N : Nat) (K : Nat) (B : Nat → Nat → Int32) (Q : Nat → Nat → Int32) (x hd : Int32) : Int32 × (Nat → Nat → Int32) × (Nat → Nat → Int32) := (if (m_isThing N K B Q x) = (0 : Int32) then ((-2 : Int32), (B, Q)) else (if (B 0 x.toNatClampNeg) = (0 : Int32) then ((-2 : Int32), (B, Q)) else (if hd = (-1 : Int32) then (if hd = x then ((-4 : Int32), (B, Q)) else (B 1 x.toNatClampNeg, (sU B 1 x.toNatClampNeg hd, Q))) else (if (m_isThing N K B Q hd) = (0 : Int32) then ((-2 : Int32), (B, Q)) else (if (B 0 hd.toNatClampNeg) = (4 : Int32) then ((-2 : Int32), (B, Q)) else (if hd = x then ((-4 : Int32), (B, Q)) else (if (m_isWithin N K B Q hd x) = (0 : Int32) then (if (B 1 x.toNatClampNeg) = hd then (B 1 x.toNatClampNeg, (sU B 1 x.toNatClampNeg hd, Q)) else (if (m_hasRoom N K B Q hd) = (0 : Int32) then ((-7 : Int32), (B, Q)) else (B 1 x.toNatClampNeg, (sU B 1 x.toNatClampNeg hd, Q)))) else ((-4 : Int32), (B, Q)))))))))
set_option maxHeartbeats 4000000 in
set_option maxRecDepth 100000 in
theorem cm_put (l : Launch) (D : va_G) (a : Nat → Nat) (cI cZ : ClassId) (N K : Nat) (B Q : Nat → Nat → Int32) (hN : N ≤ 30) (hKK : K ≤ 10) (hC : chs N B) (hDr : drM N K B) (Z : Nat → Prop) (x hd : Int32) : Met l y_M_put (Cond.code y_M_put b_M_put 4 (some .int) :: BW) ({ frames := 2, cells := 0, slots := 0, locals := 44 } : Room) (PcW D Z (wM a cI cZ (nI N) (nI K) B Q) (tM cI cZ) [.ref (a 0), .int x, .int hd]) (va_Qi (fun r u => r = (m_put N K B Q x hd).1 ∧ u = (m_put N K B Q x hd).2) (atW D (fun u => wM a cI cZ (nI N) (nI K) u.1 u.2) (tM cI cZ)) Z) 0 0 Z := by
  refine wStart (by decide) rfl (Nat.le_of_ble_eq_true rfl) (fun p e s m below meth c Sx hr hlk hP hK hD hS ls hl => ?_)
  obtain ⟨hx, hb, hml, hown, hts⟩ := id Sx
  have hl : lv_has ls 4 [(0, .ref (a 0)), (1, .int x), (2, .int hd)] := hl
  refine lv_aload_n hx hb d_M_put_0 rfl (lv_at hl 0 rfl) ?_
  refine lv_iload_n hx hb d_M_put_1 rfl (lv_at hl 1 rfl) ?_
  refine xro (As := [.int x]) (rest := []) Sx (cm_isThing l D a cI cZ N K B Q hN hKK hC hDr x) v_M_isThing ⟨rfl, rfl, Nat.le_of_ble_eq_true rfl, Nat.le_of_ble_eq_true rfl⟩ hK hP (ci := 1) (q0 := 0) rfl rfl rfl hl.1 rfl (Nat.le_of_ble_eq_true rfl) d_M_put_2 ⟨Nat.le_of_ble_eq_true rfl, Nat.le_of_ble_eq_true rfl⟩ (fun r hq => ?_)
  subst hq
  refine lv_if_eq (tgt := 40) hx hb d_M_put_5 (by decide) (fun c_5 => ?_) (fun c_5 => ?_)
  · refine lv_bipush (v := (-2 : Int32)) hx hb d_M_put_40 (by decide) ?_
    exact wRet (u := (B, Q)) hx hb hr rfl hlk (show (-2 : Int32) = (m_put N K B Q x hd).1 ∧ (B, Q) = (m_put N K B Q x hd).2 from by rw [m_put, if_pos c_5]; exact ⟨rfl, rfl⟩) hP hK hS d_M_put_42
  · refine lv_aload_n hx hb d_M_put_8 rfl (lv_at hl 0 rfl) ?_
    refine va_get (D := D) (ci := 1) (v := .ref (a 1)) (C := R_M) (T := F_M) (N := 16) hx hb hts i_M hown hK hP 0 rfl rfl 1 (by decide) (hts _ fl_M_7) (fun _ h9 => h9) rfl d_M_put_9 ?_
    refine lv_iload_n hx hb d_M_put_12 rfl (lv_at hl 1 rfl) ?_
    refine va_iald (n := 30) hx hb hK hP 1 0 rfl rfl (th_in hN (isThingM_j hN c_5)) d_M_put_13 ?_
    refine lv_if_eq (tgt := 40) hx hb d_M_put_14 (by decide) (fun c_14 => ?_) (fun c_14 => ?_)
    · refine lv_bipush (v := (-2 : Int32)) hx hb d_M_put_40 (by decide) ?_
      exact wRet (u := (B, Q)) hx hb hr rfl hlk (show (-2 : Int32) = (m_put N K B Q x hd).1 ∧ (B, Q) = (m_put N K B Q x hd).2 from by rw [m_put, if_neg c_5, if_pos c_14]; exact ⟨rfl, rfl⟩) hP hK hS d_M_put_42
    · refine lv_iload_n hx hb d_M_put_17 rfl (lv_at hl 2 rfl) ?_
      refine lv_iconst (v := (-1 : Int32)) hx hb d_M_put_18 (by decide) ?_
      refine lv_icmp_eq (tgt := 43) hx hb d_M_put_19 (by decide) (fun c_19 => ?_) (fun c_19 => ?_)
      · refine lv_iload_n hx hb d_M_put_43 rfl (lv_at hl 2 rfl) ?_
        refine lv_iload_n hx hb d_M_put_44 rfl (lv_at hl 1 rfl) ?_
        refine lv_icmp_eq (tgt := 62) hx hb d_M_put_45 (by decide) (fun c_45 => ?_) (fun c_45 => ?_)
        · refine lv_bipush (v := (-4 : Int32)) hx hb d_M_put_62 (by decide) ?_
          exact wRet (u := (B, Q)) hx hb hr rfl hlk (show (-4 : Int32) = (m_put N K B Q x hd).1 ∧ (B, Q) = (m_put N K B Q x hd).2 from by rw [m_put, if_neg c_5, if_neg c_14, if_pos c_19, if_pos c_45]; exact ⟨rfl, rfl⟩) hP hK hS d_M_put_64
        · refine lv_iload_n hx hb d_M_put_48 rfl (lv_at hl 2 rfl) ?_
          refine lv_iconst (v := (-1 : Int32)) hx hb d_M_put_49 (by decide) ?_
          refine lv_icmp_eq (tgt := 65) hx hb d_M_put_50 (by decide) (fun c_50 => ?_) (fun c_50 => absurd c_19 c_50)
          refine lv_iload_n hx hb d_M_put_65 rfl (lv_at hl 2 rfl) ?_
          refine lv_iconst (v := (-1 : Int32)) hx hb d_M_put_66 (by decide) ?_
          refine lv_icmp_eq (tgt := 91) hx hb d_M_put_67 (by decide) (fun c_67 => ?_) (fun c_67 => absurd c_19 c_67)
          refine lv_aload_n hx hb d_M_put_91 rfl (lv_at hl 0 rfl) ?_
          refine va_get (D := D) (ci := 1) (v := .ref (a 2)) (C := R_M) (T := F_M) (N := 16) hx hb hts i_M hown hK hP 0 rfl rfl 2 (by decide) (hts _ fl_M_13) (fun _ h9 => h9) rfl d_M_put_92 ?_
          refine lv_iload_n hx hb d_M_put_95 rfl (lv_at hl 1 rfl) ?_
          refine va_iald (n := 30) hx hb hK hP 2 0 rfl rfl (th_in hN (isThingM_j hN c_5)) d_M_put_96 ?_
          refine lv_istore_n (lv' := [(3, .int (B 1 x.toNatClampNeg)), (0, .ref (a 0)), (1, .int x), (2, .int hd)]) hx hb d_M_put_97 rfl hl (by decide) rfl (fun ls hl => ?_)
          refine lv_aload_n hx hb d_M_put_98 rfl (lv_at hl 1 rfl) ?_
          refine va_get (D := D) (ci := 1) (v := .ref (a 2)) (C := R_M) (T := F_M) (N := 16) hx hb hts i_M hown hK hP 0 rfl rfl 2 (by decide) (hts _ fl_M_13) (fun _ h9 => h9) rfl d_M_put_99 ?_
          refine lv_iload_n hx hb d_M_put_102 rfl (lv_at hl 2 rfl) ?_
          refine lv_iload_n hx hb d_M_put_103 rfl (lv_at hl 3 rfl) ?_
          refine va_iast (n := 30) hx hb hK hP (wM_D hD) hS 2 0 rfl rfl (th_in hN (isThingM_j hN c_5)) d_M_put_104 (fun H locs hP _ hS => ?_)
          have hP : va_P D classes (wM a cI cZ (nI N) (nI K) (sU B 1 x.toNatClampNeg hd) Q) H := by have h9 := hP; rw [wM_s2] at h9; exact h9
          refine lv_iload_n hx hb d_M_put_105 rfl (lv_at hl 0 rfl) ?_
          exact wRet (u := (sU B 1 x.toNatClampNeg hd, Q)) hx hb hr rfl hlk (show B 1 x.toNatClampNeg = (m_put N K B Q x hd).1 ∧ (sU B 1 x.toNatClampNeg hd, Q) = (m_put N K B Q x hd).2 from by rw [m_put, if_neg c_5, if_neg c_14, if_pos c_19, if_neg c_45]; exact ⟨rfl, rfl⟩) hP hK hS d_M_put_106
      · refine lv_aload_n hx hb d_M_put_22 rfl (lv_at hl 0 rfl) ?_
        refine lv_iload_n hx hb d_M_put_23 rfl (lv_at hl 2 rfl) ?_
        refine xro (As := [.int hd]) (rest := []) Sx (cm_isThing l D a cI cZ N K B Q hN hKK hC hDr hd) v_M_isThing ⟨rfl, rfl, Nat.le_of_ble_eq_true rfl, Nat.le_of_ble_eq_true rfl⟩ hK hP (ci := 1) (q0 := 0) rfl rfl rfl hl.1 rfl (Nat.le_of_ble_eq_true rfl) d_M_put_24 ⟨Nat.le_of_ble_eq_true rfl, Nat.le_of_ble_eq_true rfl⟩ (fun r hq => ?_)
        subst hq
        refine lv_if_eq (tgt := 40) hx hb d_M_put_27 (by decide) (fun c_27 => ?_) (fun c_27 => ?_)
        · refine lv_bipush (v := (-2 : Int32)) hx hb d_M_put_40 (by decide) ?_
          exact wRet (u := (B, Q)) hx hb hr rfl hlk (show (-2 : Int32) = (m_put N K B Q x hd).1 ∧ (B, Q) = (m_put N K B Q x hd).2 from by rw [m_put, if_neg c_5, if_neg c_14, if_neg c_19, if_pos c_27]; exact ⟨rfl, rfl⟩) hP hK hS d_M_put_42
        · refine lv_aload_n hx hb d_M_put_30 rfl (lv_at hl 0 rfl) ?_
          refine va_get (D := D) (ci := 1) (v := .ref (a 1)) (C := R_M) (T := F_M) (N := 16) hx hb hts i_M hown hK hP 0 rfl rfl 1 (by decide) (hts _ fl_M_7) (fun _ h9 => h9) rfl d_M_put_31 ?_
          refine lv_iload_n hx hb d_M_put_34 rfl (lv_at hl 2 rfl) ?_
          refine va_iald (n := 30) hx hb hK hP 1 0 rfl rfl (th_in hN (isThingM_j hN c_27)) d_M_put_35 ?_
          refine lv_iconst (v := (4 : Int32)) hx hb d_M_put_36 (by decide) ?_
          refine lv_icmp_ne (tgt := 43) hx hb d_M_put_37 (by decide) (fun c_37 => ?_) (fun c_37 => ?_)
          · refine lv_iload_n hx hb d_M_put_43 rfl (lv_at hl 2 rfl) ?_
            refine lv_iload_n hx hb d_M_put_44 rfl (lv_at hl 1 rfl) ?_
            refine lv_icmp_eq (tgt := 62) hx hb d_M_put_45 (by decide) (fun c_45 => ?_) (fun c_45 => ?_)
            · refine lv_bipush (v := (-4 : Int32)) hx hb d_M_put_62 (by decide) ?_
              exact wRet (u := (B, Q)) hx hb hr rfl hlk (show (-4 : Int32) = (m_put N K B Q x hd).1 ∧ (B, Q) = (m_put N K B Q x hd).2 from by rw [m_put, if_neg c_5, if_neg c_14, if_neg c_19, if_neg c_27, if_neg c_37, if_pos c_45]; exact ⟨rfl, rfl⟩) hP hK hS d_M_put_64
            · refine lv_iload_n hx hb d_M_put_48 rfl (lv_at hl 2 rfl) ?_
              refine lv_iconst (v := (-1 : Int32)) hx hb d_M_put_49 (by decide) ?_
              refine lv_icmp_eq (tgt := 65) hx hb d_M_put_50 (by decide) (fun c_50 => absurd c_50 c_19) (fun c_50 => ?_)
              refine lv_aload_n hx hb d_M_put_53 rfl (lv_at hl 0 rfl) ?_
              refine lv_iload_n hx hb d_M_put_54 rfl (lv_at hl 2 rfl) ?_
              refine lv_iload_n hx hb d_M_put_55 rfl (lv_at hl 1 rfl) ?_
              refine xro (As := [.int hd, .int x]) (rest := []) Sx (cm_isWithin l D a cI cZ N K B Q hN hKK hC hDr hd x (isThingM_j hN c_27)) v_M_isWithin ⟨rfl, rfl, Nat.le_of_ble_eq_true rfl, Nat.le_of_ble_eq_true rfl⟩ hK hP (ci := 1) (q0 := 0) rfl rfl rfl hl.1 rfl (Nat.le_of_ble_eq_true rfl) d_M_put_56 ⟨Nat.le_of_ble_eq_true rfl, Nat.le_of_ble_eq_true rfl⟩ (fun r hq => ?_)
              subst hq
              refine lv_if_eq (tgt := 65) hx hb d_M_put_59 (by decide) (fun c_59 => ?_) (fun c_59 => ?_)
              · refine lv_iload_n hx hb d_M_put_65 rfl (lv_at hl 2 rfl) ?_
                refine lv_iconst (v := (-1 : Int32)) hx hb d_M_put_66 (by decide) ?_
                refine lv_icmp_eq (tgt := 91) hx hb d_M_put_67 (by decide) (fun c_67 => absurd c_67 c_19) (fun c_67 => ?_)
                refine lv_aload_n hx hb d_M_put_70 rfl (lv_at hl 0 rfl) ?_
                refine va_get (D := D) (ci := 1) (v := .ref (a 2)) (C := R_M) (T := F_M) (N := 16) hx hb hts i_M hown hK hP 0 rfl rfl 2 (by decide) (hts _ fl_M_13) (fun _ h9 => h9) rfl d_M_put_71 ?_
                refine lv_iload_n hx hb d_M_put_74 rfl (lv_at hl 1 rfl) ?_
                refine va_iald (n := 30) hx hb hK hP 2 0 rfl rfl (th_in hN (isThingM_j hN c_5)) d_M_put_75 ?_
                refine lv_iload_n hx hb d_M_put_76 rfl (lv_at hl 2 rfl) ?_
                refine lv_icmp_eq (tgt := 91) hx hb d_M_put_77 (by decide) (fun c_77 => ?_) (fun c_77 => ?_)
                · refine lv_aload_n hx hb d_M_put_91 rfl (lv_at hl 0 rfl) ?_
                  refine va_get (D := D) (ci := 1) (v := .ref (a 2)) (C := R_M) (T := F_M) (N := 16) hx hb hts i_M hown hK hP 0 rfl rfl 2 (by decide) (hts _ fl_M_13) (fun _ h9 => h9) rfl d_M_put_92 ?_
                  refine lv_iload_n hx hb d_M_put_95 rfl (lv_at hl 1 rfl) ?_
                  refine va_iald (n := 30) hx hb hK hP 2 0 rfl rfl (th_in hN (isThingM_j hN c_5)) d_M_put_96 ?_
                  refine lv_istore_n (lv' := [(3, .int (B 1 x.toNatClampNeg)), (0, .ref (a 0)), (1, .int x), (2, .int hd)]) hx hb d_M_put_97 rfl hl (by decide) rfl (fun ls hl => ?_)
                  refine lv_aload_n hx hb d_M_put_98 rfl (lv_at hl 1 rfl) ?_
                  refine va_get (D := D) (ci := 1) (v := .ref (a 2)) (C := R_M) (T := F_M) (N := 16) hx hb hts i_M hown hK hP 0 rfl rfl 2 (by decide) (hts _ fl_M_13) (fun _ h9 => h9) rfl d_M_put_99 ?_
                  refine lv_iload_n hx hb d_M_put_102 rfl (lv_at hl 2 rfl) ?_
                  refine lv_iload_n hx hb d_M_put_103 rfl (lv_at hl 3 rfl) ?_
                  refine va_iast (n := 30) hx hb hK hP (wM_D hD) hS 2 0 rfl rfl (th_in hN (isThingM_j hN c_5)) d_M_put_104 (fun H locs hP _ hS => ?_)
                  have hP : va_P D classes (wM a cI cZ (nI N) (nI K) (sU B 1 x.toNatClampNeg hd) Q) H := by have h9 := hP; rw [wM_s2] at h9; exact h9
                  refine lv_iload_n hx hb d_M_put_105 rfl (lv_at hl 0 rfl) ?_
                  exact wRet (u := (sU B 1 x.toNatClampNeg hd, Q)) hx hb hr rfl hlk (show B 1 x.toNatClampNeg = (m_put N K B Q x hd).1 ∧ (sU B 1 x.toNatClampNeg hd, Q) = (m_put N K B Q x hd).2 from by rw [m_put, if_neg c_5, if_neg c_14, if_neg c_19, if_neg c_27, if_neg c_37, if_neg c_45, if_pos c_59, if_pos c_77]; exact ⟨rfl, rfl⟩) hP hK hS d_M_put_106
                · refine lv_aload_n hx hb d_M_put_80 rfl (lv_at hl 0 rfl) ?_
                  refine lv_iload_n hx hb d_M_put_81 rfl (lv_at hl 2 rfl) ?_
                  refine xro (As := [.int hd]) (rest := []) Sx (cm_hasRoom l D a cI cZ N K B Q hN hKK hC hDr hd (isThingM_j hN c_27)) v_M_hasRoom ⟨rfl, rfl, Nat.le_of_ble_eq_true rfl, Nat.le_of_ble_eq_true rfl⟩ hK hP (ci := 1) (q0 := 0) rfl rfl rfl hl.1 rfl (Nat.le_of_ble_eq_true rfl) d_M_put_82 ⟨Nat.le_of_ble_eq_true rfl, Nat.le_of_ble_eq_true rfl⟩ (fun r hq => ?_)
                  subst hq
                  refine lv_if_ne (tgt := 91) hx hb d_M_put_85 (by decide) (fun c_85 => ?_) (fun c_85 => ?_)
                  · refine lv_aload_n hx hb d_M_put_91 rfl (lv_at hl 0 rfl) ?_
                    refine va_get (D := D) (ci := 1) (v := .ref (a 2)) (C := R_M) (T := F_M) (N := 16) hx hb hts i_M hown hK hP 0 rfl rfl 2 (by decide) (hts _ fl_M_13) (fun _ h9 => h9) rfl d_M_put_92 ?_
                    refine lv_iload_n hx hb d_M_put_95 rfl (lv_at hl 1 rfl) ?_
                    refine va_iald (n := 30) hx hb hK hP 2 0 rfl rfl (th_in hN (isThingM_j hN c_5)) d_M_put_96 ?_
                    refine lv_istore_n (lv' := [(3, .int (B 1 x.toNatClampNeg)), (0, .ref (a 0)), (1, .int x), (2, .int hd)]) hx hb d_M_put_97 rfl hl (by decide) rfl (fun ls hl => ?_)
                    refine lv_aload_n hx hb d_M_put_98 rfl (lv_at hl 1 rfl) ?_
                    refine va_get (D := D) (ci := 1) (v := .ref (a 2)) (C := R_M) (T := F_M) (N := 16) hx hb hts i_M hown hK hP 0 rfl rfl 2 (by decide) (hts _ fl_M_13) (fun _ h9 => h9) rfl d_M_put_99 ?_
                    refine lv_iload_n hx hb d_M_put_102 rfl (lv_at hl 2 rfl) ?_
                    refine lv_iload_n hx hb d_M_put_103 rfl (lv_at hl 3 rfl) ?_
                    refine va_iast (n := 30) hx hb hK hP (wM_D hD) hS 2 0 rfl rfl (th_in hN (isThingM_j hN c_5)) d_M_put_104 (fun H locs hP _ hS => ?_)
                    have hP : va_P D classes (wM a cI cZ (nI N) (nI K) (sU B 1 x.toNatClampNeg hd) Q) H := by have h9 := hP; rw [wM_s2] at h9; exact h9
                    refine lv_iload_n hx hb d_M_put_105 rfl (lv_at hl 0 rfl) ?_
                    exact wRet (u := (sU B 1 x.toNatClampNeg hd, Q)) hx hb hr rfl hlk (show B 1 x.toNatClampNeg = (m_put N K B Q x hd).1 ∧ (sU B 1 x.toNatClampNeg hd, Q) = (m_put N K B Q x hd).2 from by rw [m_put, if_neg c_5, if_neg c_14, if_neg c_19, if_neg c_27, if_neg c_37, if_neg c_45, if_pos c_59, if_neg c_77, if_neg c_85]; exact ⟨rfl, rfl⟩) hP hK hS d_M_put_106
                  · refine lv_bipush (v := (-7 : Int32)) hx hb d_M_put_88 (by decide) ?_
                    exact wRet (u := (B, Q)) hx hb hr rfl hlk (show (-7 : Int32) = (m_put N K B Q x hd).1 ∧ (B, Q) = (m_put N K B Q x hd).2 from by rw [m_put, if_neg c_5, if_neg c_14, if_neg c_19, if_neg c_27, if_neg c_37, if_neg c_45, if_pos c_59, if_neg c_77, if_pos c_85]; exact ⟨rfl, rfl⟩) hP hK hS d_M_put_90
              · refine lv_bipush (v := (-4 : Int32)) hx hb d_M_put_62 (by decide) ?_
                exact wRet (u := (B, Q)) hx hb hr rfl hlk (show (-4 : Int32) = (m_put N K B Q x hd).1 ∧ (B, Q) = (m_put N K B Q x hd).2 from by rw [m_put, if_neg c_5, if_neg c_14, if_neg c_19, if_neg c_27, if_neg c_37, if_neg c_45, if_neg c_59]; exact ⟨rfl, rfl⟩) hP hK hS d_M_put_64
          · refine lv_bipush (v := (-2 : Int32)) hx hb d_M_put_40 (by decide) ?_
            exact wRet (u := (B, Q)) hx hb hr rfl hlk (show (-2 : Int32) = (m_put N K B Q x hd).1 ∧ (B, Q) = (m_put N K B Q x hd).2 from by rw [m_put, if_neg c_5, if_neg c_14, if_neg c_19, if_neg c_27, if_pos c_37]; exact ⟨rfl, rfl⟩) hP hK hS d_M_put_42

def m_set (N : Nat) (K : Nat) (B : Nat → Nat → Int32) (Q : Nat → Nat → Int32) (x what v : Int32) : Int32 × (Nat → Nat → Int32) × (Nat → Nat → Int32) := (if (m_isThing N K B Q x) = (0 : Int32) then ((-2 : Int32), (B, Q)) else (if (m_in what (0 : Int32) (1 : Int32)) = (0 : Int32) then (if (m_in what (0 : Int32) (3 : Int32)) = (0 : Int32) then ((-3 : Int32), (B, Q)) else (if (2 : Int32) ≤ what then (if (m_in v (0 : Int32) (9 : Int32)) = (0 : Int32) then ((-3 : Int32), (B, Q)) else (B 2 (((4 : Int32) * x) + what).toNatClampNeg, (sU B 2 (((4 : Int32) * x) + what).toNatClampNeg v, Q))) else (if (m_in v (0 : Int32) (1 : Int32)) = (0 : Int32) then ((-3 : Int32), (B, Q)) else (B 2 (((4 : Int32) * x) + what).toNatClampNeg, (sU B 2 (((4 : Int32) * x) + what).toNatClampNeg v, Q))))) else (if (B 0 x.toNatClampNeg) = (1 : Int32) then (if (m_in what (0 : Int32) (3 : Int32)) = (0 : Int32) then ((-3 : Int32), (B, Q)) else (if (2 : Int32) ≤ what then (if (m_in v (0 : Int32) (9 : Int32)) = (0 : Int32) then ((-3 : Int32), (B, Q)) else (B 2 (((4 : Int32) * x) + what).toNatClampNeg, (sU B 2 (((4 : Int32) * x) + what).toNatClampNeg v, Q))) else (if (m_in v (0 : Int32) (1 : Int32)) = (0 : Int32) then ((-3 : Int32), (B, Q)) else (B 2 (((4 : Int32) * x) + what).toNatClampNeg, (sU B 2 (((4 : Int32) * x) + what).toNatClampNeg v, Q))))) else ((-2 : Int32), (B, Q)))))
set_option maxHeartbeats 4000000 in
set_option maxRecDepth 100000 in
theorem cm_set (l : Launch) (D : va_G) (a : Nat → Nat) (cI cZ : ClassId) (N K : Nat) (B Q : Nat → Nat → Int32) (hN : N ≤ 30) (hKK : K ≤ 10) (hC : chs N B) (hDr : drM N K B) (Z : Nat → Prop) (x what v : Int32) : Met l y_M_set (Cond.code y_M_set b_M_set 5 (some .int) :: BW) ({ frames := 2, cells := 0, slots := 0, locals := 43 } : Room) (PcW D Z (wM a cI cZ (nI N) (nI K) B Q) (tM cI cZ) [.ref (a 0), .int x, .int what, .int v]) (va_Qi (fun r u => r = (m_set N K B Q x what v).1 ∧ u = (m_set N K B Q x what v).2) (atW D (fun u => wM a cI cZ (nI N) (nI K) u.1 u.2) (tM cI cZ)) Z) 0 0 Z := by
  refine wStart (by decide) rfl (Nat.le_of_ble_eq_true rfl) (fun p e s m below meth c Sx hr hlk hP hK hD hS ls hl => ?_)
  obtain ⟨hx, hb, hml, hown, hts⟩ := id Sx
  have hl : lv_has ls 5 [(0, .ref (a 0)), (1, .int x), (2, .int what), (3, .int v)] := hl
  refine lv_aload_n hx hb d_M_set_0 rfl (lv_at hl 0 rfl) ?_
  refine lv_iload_n hx hb d_M_set_1 rfl (lv_at hl 1 rfl) ?_
  refine xro (As := [.int x]) (rest := []) Sx (cm_isThing l D a cI cZ N K B Q hN hKK hC hDr x) v_M_isThing ⟨rfl, rfl, Nat.le_of_ble_eq_true rfl, Nat.le_of_ble_eq_true rfl⟩ hK hP (ci := 1) (q0 := 0) rfl rfl rfl hl.1 rfl (Nat.le_of_ble_eq_true rfl) d_M_set_2 ⟨Nat.le_of_ble_eq_true rfl, Nat.le_of_ble_eq_true rfl⟩ (fun r hq => ?_)
  subst hq
  refine lv_if_eq (tgt := 27) hx hb d_M_set_5 (by decide) (fun c_5 => ?_) (fun c_5 => ?_)
  · refine lv_bipush (v := (-2 : Int32)) hx hb d_M_set_27 (by decide) ?_
    exact wRet (u := (B, Q)) hx hb hr rfl hlk (show (-2 : Int32) = (m_set N K B Q x what v).1 ∧ (B, Q) = (m_set N K B Q x what v).2 from by rw [m_set, if_pos c_5]; exact ⟨rfl, rfl⟩) hP hK hS d_M_set_29
  · refine lv_iload_n hx hb d_M_set_8 rfl (lv_at hl 2 rfl) ?_
    refine lv_iconst (v := (0 : Int32)) hx hb d_M_set_9 (by decide) ?_
    refine lv_iconst (v := (1 : Int32)) hx hb d_M_set_10 (by decide) ?_
    refine xst (As := [.int what, .int (0 : Int32), .int (1 : Int32)]) (rest := []) Sx (cm_in l what (0 : Int32) (1 : Int32)) v_M_in ⟨rfl, rfl, Nat.le_of_ble_eq_true rfl, Nat.le_of_ble_eq_true rfl⟩ rfl hl.1 rfl (Nat.le_of_ble_eq_true rfl) d_M_set_11 ⟨Nat.le_of_ble_eq_true rfl, Nat.le_of_ble_eq_true rfl⟩ (fun r hq => ?_)
    subst hq
    refine lv_if_eq (tgt := 30) hx hb d_M_set_14 (by decide) (fun c_14 => ?_) (fun c_14 => ?_)
    · refine lv_iload_n hx hb d_M_set_30 rfl (lv_at hl 2 rfl) ?_
      refine lv_iconst (v := (0 : Int32)) hx hb d_M_set_31 (by decide) ?_
      refine lv_iconst (v := (3 : Int32)) hx hb d_M_set_32 (by decide) ?_
      refine xst (As := [.int what, .int (0 : Int32), .int (3 : Int32)]) (rest := []) Sx (cm_in l what (0 : Int32) (3 : Int32)) v_M_in ⟨rfl, rfl, Nat.le_of_ble_eq_true rfl, Nat.le_of_ble_eq_true rfl⟩ rfl hl.1 rfl (Nat.le_of_ble_eq_true rfl) d_M_set_33 ⟨Nat.le_of_ble_eq_true rfl, Nat.le_of_ble_eq_true rfl⟩ (fun r hq => ?_)
      subst hq
      refine lv_if_eq (tgt := 58) hx hb d_M_set_36 (by decide) (fun c_36 => ?_) (fun c_36 => ?_)
      · refine lv_bipush (v := (-3 : Int32)) hx hb d_M_set_58 (by decide) ?_
        exact wRet (u := (B, Q)) hx hb hr rfl hlk (show (-3 : Int32) = (m_set N K B Q x what v).1 ∧ (B, Q) = (m_set N K B Q x what v).2 from by rw [m_set, if_neg c_5, if_pos c_14, if_pos c_36]; exact ⟨rfl, rfl⟩) hP hK hS d_M_set_60
      · refine lv_iload_n hx hb d_M_set_39 rfl (lv_at hl 3 rfl) ?_
        refine lv_iconst (v := (0 : Int32)) hx hb d_M_set_40 (by decide) ?_
        refine lv_iload_n hx hb d_M_set_41 rfl (lv_at hl 2 rfl) ?_
        refine lv_iconst (v := (2 : Int32)) hx hb d_M_set_42 (by decide) ?_
        refine lv_icmp_ge (tgt := 50) hx hb d_M_set_43 (by decide) (fun c_43 => ?_) (fun c_43 => ?_)
        · refine lv_bipush (v := (9 : Int32)) hx hb d_M_set_50 (by decide) ?_
          refine xst (As := [.int v, .int (0 : Int32), .int (9 : Int32)]) (rest := []) Sx (cm_in l v (0 : Int32) (9 : Int32)) v_M_in ⟨rfl, rfl, Nat.le_of_ble_eq_true rfl, Nat.le_of_ble_eq_true rfl⟩ rfl hl.1 rfl (Nat.le_of_ble_eq_true rfl) d_M_set_52 ⟨Nat.le_of_ble_eq_true rfl, Nat.le_of_ble_eq_true rfl⟩ (fun r hq => ?_)
          subst hq
          refine lv_if_ne (tgt := 61) hx hb d_M_set_55 (by decide) (fun c_55 => ?_) (fun c_55 => ?_)
          · refine lv_aload_n hx hb d_M_set_61 rfl (lv_at hl 0 rfl) ?_
            refine va_get (D := D) (ci := 1) (v := .ref (a 3)) (C := R_M) (T := F_M) (N := 16) hx hb hts i_M hown hK hP 0 rfl rfl 3 (by decide) (hts _ fl_M_16) (fun _ h9 => h9) rfl d_M_set_62 ?_
            refine lv_iconst (v := (4 : Int32)) hx hb d_M_set_65 (by decide) ?_
            refine lv_iload_n hx hb d_M_set_66 rfl (lv_at hl 1 rfl) ?_
            refine lv_imul hx hb d_M_set_67 ?_
            refine lv_iload_n hx hb d_M_set_68 rfl (lv_at hl 2 rfl) ?_
            refine lv_iadd hx hb d_M_set_69 ?_
            refine va_iald (n := 120) hx hb hK hP 3 0 rfl rfl (st_in hN (isThingM_j hN c_5) (in03 c_36)) d_M_set_70 ?_
            refine lv_istore (lv' := [(4, .int (B 2 (((4 : Int32) * x) + what).toNatClampNeg)), (0, .ref (a 0)), (1, .int x), (2, .int what), (3, .int v)]) hx hb d_M_set_71 hl (by decide) rfl (fun ls hl => ?_)
            refine lv_aload_n hx hb d_M_set_73 rfl (lv_at hl 1 rfl) ?_
            refine va_get (D := D) (ci := 1) (v := .ref (a 3)) (C := R_M) (T := F_M) (N := 16) hx hb hts i_M hown hK hP 0 rfl rfl 3 (by decide) (hts _ fl_M_16) (fun _ h9 => h9) rfl d_M_set_74 ?_
            refine lv_iconst (v := (4 : Int32)) hx hb d_M_set_77 (by decide) ?_
            refine lv_iload_n hx hb d_M_set_78 rfl (lv_at hl 2 rfl) ?_
            refine lv_imul hx hb d_M_set_79 ?_
            refine lv_iload_n hx hb d_M_set_80 rfl (lv_at hl 3 rfl) ?_
            refine lv_iadd hx hb d_M_set_81 ?_
            refine lv_iload_n hx hb d_M_set_82 rfl (lv_at hl 4 rfl) ?_
            refine va_iast (n := 120) hx hb hK hP (wM_D hD) hS 3 0 rfl rfl (st_in hN (isThingM_j hN c_5) (in03 c_36)) d_M_set_83 (fun H locs hP _ hS => ?_)
            have hP : va_P D classes (wM a cI cZ (nI N) (nI K) (sU B 2 (((4 : Int32) * x) + what).toNatClampNeg v) Q) H := by have h9 := hP; rw [wM_s3] at h9; exact h9
            refine lv_iload hx hb d_M_set_84 (lv_at hl 0 rfl) ?_
            exact wRet (u := (sU B 2 (((4 : Int32) * x) + what).toNatClampNeg v, Q)) hx hb hr rfl hlk (show B 2 (((4 : Int32) * x) + what).toNatClampNeg = (m_set N K B Q x what v).1 ∧ (sU B 2 (((4 : Int32) * x) + what).toNatClampNeg v, Q) = (m_set N K B Q x what v).2 from by rw [m_set, if_neg c_5, if_pos c_14, if_neg c_36, if_pos c_43, if_neg c_55]; exact ⟨rfl, rfl⟩) hP hK hS d_M_set_86
          · refine lv_bipush (v := (-3 : Int32)) hx hb d_M_set_58 (by decide) ?_
            exact wRet (u := (B, Q)) hx hb hr rfl hlk (show (-3 : Int32) = (m_set N K B Q x what v).1 ∧ (B, Q) = (m_set N K B Q x what v).2 from by rw [m_set, if_neg c_5, if_pos c_14, if_neg c_36, if_pos c_43, if_pos c_55]; exact ⟨rfl, rfl⟩) hP hK hS d_M_set_60
        · refine lv_iconst (v := (1 : Int32)) hx hb d_M_set_46 (by decide) ?_
          refine lv_goto (tgt := 52) hx hb d_M_set_47 (by decide) ?_
          refine xst (As := [.int v, .int (0 : Int32), .int (1 : Int32)]) (rest := []) Sx (cm_in l v (0 : Int32) (1 : Int32)) v_M_in ⟨rfl, rfl, Nat.le_of_ble_eq_true rfl, Nat.le_of_ble_eq_true rfl⟩ rfl hl.1 rfl (Nat.le_of_ble_eq_true rfl) d_M_set_52 ⟨Nat.le_of_ble_eq_true rfl, Nat.le_of_ble_eq_true rfl⟩ (fun r hq => ?_)
          subst hq
          refine lv_if_ne (tgt := 61) hx hb d_M_set_55 (by decide) (fun c_55 => ?_) (fun c_55 => ?_)
          · refine lv_aload_n hx hb d_M_set_61 rfl (lv_at hl 0 rfl) ?_
            refine va_get (D := D) (ci := 1) (v := .ref (a 3)) (C := R_M) (T := F_M) (N := 16) hx hb hts i_M hown hK hP 0 rfl rfl 3 (by decide) (hts _ fl_M_16) (fun _ h9 => h9) rfl d_M_set_62 ?_
            refine lv_iconst (v := (4 : Int32)) hx hb d_M_set_65 (by decide) ?_
            refine lv_iload_n hx hb d_M_set_66 rfl (lv_at hl 1 rfl) ?_
            refine lv_imul hx hb d_M_set_67 ?_
            refine lv_iload_n hx hb d_M_set_68 rfl (lv_at hl 2 rfl) ?_
            refine lv_iadd hx hb d_M_set_69 ?_
            refine va_iald (n := 120) hx hb hK hP 3 0 rfl rfl (st_in hN (isThingM_j hN c_5) (in03 c_36)) d_M_set_70 ?_
            refine lv_istore (lv' := [(4, .int (B 2 (((4 : Int32) * x) + what).toNatClampNeg)), (0, .ref (a 0)), (1, .int x), (2, .int what), (3, .int v)]) hx hb d_M_set_71 hl (by decide) rfl (fun ls hl => ?_)
            refine lv_aload_n hx hb d_M_set_73 rfl (lv_at hl 1 rfl) ?_
            refine va_get (D := D) (ci := 1) (v := .ref (a 3)) (C := R_M) (T := F_M) (N := 16) hx hb hts i_M hown hK hP 0 rfl rfl 3 (by decide) (hts _ fl_M_16) (fun _ h9 => h9) rfl d_M_set_74 ?_
            refine lv_iconst (v := (4 : Int32)) hx hb d_M_set_77 (by decide) ?_
            refine lv_iload_n hx hb d_M_set_78 rfl (lv_at hl 2 rfl) ?_
            refine lv_imul hx hb d_M_set_79 ?_
            refine lv_iload_n hx hb d_M_set_80 rfl (lv_at hl 3 rfl) ?_
            refine lv_iadd hx hb d_M_set_81 ?_
            refine lv_iload_n hx hb d_M_set_82 rfl (lv_at hl 4 rfl) ?_
            refine va_iast (n := 120) hx hb hK hP (wM_D hD) hS 3 0 rfl rfl (st_in hN (isThingM_j hN c_5) (in03 c_36)) d_M_set_83 (fun H locs hP _ hS => ?_)
            have hP : va_P D classes (wM a cI cZ (nI N) (nI K) (sU B 2 (((4 : Int32) * x) + what).toNatClampNeg v) Q) H := by have h9 := hP; rw [wM_s3] at h9; exact h9
            refine lv_iload hx hb d_M_set_84 (lv_at hl 0 rfl) ?_
            exact wRet (u := (sU B 2 (((4 : Int32) * x) + what).toNatClampNeg v, Q)) hx hb hr rfl hlk (show B 2 (((4 : Int32) * x) + what).toNatClampNeg = (m_set N K B Q x what v).1 ∧ (sU B 2 (((4 : Int32) * x) + what).toNatClampNeg v, Q) = (m_set N K B Q x what v).2 from by rw [m_set, if_neg c_5, if_pos c_14, if_neg c_36, if_neg c_43, if_neg c_55]; exact ⟨rfl, rfl⟩) hP hK hS d_M_set_86
          · refine lv_bipush (v := (-3 : Int32)) hx hb d_M_set_58 (by decide) ?_
            exact wRet (u := (B, Q)) hx hb hr rfl hlk (show (-3 : Int32) = (m_set N K B Q x what v).1 ∧ (B, Q) = (m_set N K B Q x what v).2 from by rw [m_set, if_neg c_5, if_pos c_14, if_neg c_36, if_neg c_43, if_pos c_55]; exact ⟨rfl, rfl⟩) hP hK hS d_M_set_60
    · refine lv_aload_n hx hb d_M_set_17 rfl (lv_at hl 0 rfl) ?_
      refine va_get (D := D) (ci := 1) (v := .ref (a 1)) (C := R_M) (T := F_M) (N := 16) hx hb hts i_M hown hK hP 0 rfl rfl 1 (by decide) (hts _ fl_M_7) (fun _ h9 => h9) rfl d_M_set_18 ?_
      refine lv_iload_n hx hb d_M_set_21 rfl (lv_at hl 1 rfl) ?_
      refine va_iald (n := 30) hx hb hK hP 1 0 rfl rfl (th_in hN (isThingM_j hN c_5)) d_M_set_22 ?_
      refine lv_iconst (v := (1 : Int32)) hx hb d_M_set_23 (by decide) ?_
      refine lv_icmp_eq (tgt := 30) hx hb d_M_set_24 (by decide) (fun c_24 => ?_) (fun c_24 => ?_)
      · refine lv_iload_n hx hb d_M_set_30 rfl (lv_at hl 2 rfl) ?_
        refine lv_iconst (v := (0 : Int32)) hx hb d_M_set_31 (by decide) ?_
        refine lv_iconst (v := (3 : Int32)) hx hb d_M_set_32 (by decide) ?_
        refine xst (As := [.int what, .int (0 : Int32), .int (3 : Int32)]) (rest := []) Sx (cm_in l what (0 : Int32) (3 : Int32)) v_M_in ⟨rfl, rfl, Nat.le_of_ble_eq_true rfl, Nat.le_of_ble_eq_true rfl⟩ rfl hl.1 rfl (Nat.le_of_ble_eq_true rfl) d_M_set_33 ⟨Nat.le_of_ble_eq_true rfl, Nat.le_of_ble_eq_true rfl⟩ (fun r hq => ?_)
        subst hq
        refine lv_if_eq (tgt := 58) hx hb d_M_set_36 (by decide) (fun c_36 => ?_) (fun c_36 => ?_)
        · refine lv_bipush (v := (-3 : Int32)) hx hb d_M_set_58 (by decide) ?_
          exact wRet (u := (B, Q)) hx hb hr rfl hlk (show (-3 : Int32) = (m_set N K B Q x what v).1 ∧ (B, Q) = (m_set N K B Q x what v).2 from by rw [m_set, if_neg c_5, if_neg c_14, if_pos c_24, if_pos c_36]; exact ⟨rfl, rfl⟩) hP hK hS d_M_set_60
        · refine lv_iload_n hx hb d_M_set_39 rfl (lv_at hl 3 rfl) ?_
          refine lv_iconst (v := (0 : Int32)) hx hb d_M_set_40 (by decide) ?_
          refine lv_iload_n hx hb d_M_set_41 rfl (lv_at hl 2 rfl) ?_
          refine lv_iconst (v := (2 : Int32)) hx hb d_M_set_42 (by decide) ?_
          refine lv_icmp_ge (tgt := 50) hx hb d_M_set_43 (by decide) (fun c_43 => ?_) (fun c_43 => ?_)
          · refine lv_bipush (v := (9 : Int32)) hx hb d_M_set_50 (by decide) ?_
            refine xst (As := [.int v, .int (0 : Int32), .int (9 : Int32)]) (rest := []) Sx (cm_in l v (0 : Int32) (9 : Int32)) v_M_in ⟨rfl, rfl, Nat.le_of_ble_eq_true rfl, Nat.le_of_ble_eq_true rfl⟩ rfl hl.1 rfl (Nat.le_of_ble_eq_true rfl) d_M_set_52 ⟨Nat.le_of_ble_eq_true rfl, Nat.le_of_ble_eq_true rfl⟩ (fun r hq => ?_)
            subst hq
            refine lv_if_ne (tgt := 61) hx hb d_M_set_55 (by decide) (fun c_55 => ?_) (fun c_55 => ?_)
            · refine lv_aload_n hx hb d_M_set_61 rfl (lv_at hl 0 rfl) ?_
              refine va_get (D := D) (ci := 1) (v := .ref (a 3)) (C := R_M) (T := F_M) (N := 16) hx hb hts i_M hown hK hP 0 rfl rfl 3 (by decide) (hts _ fl_M_16) (fun _ h9 => h9) rfl d_M_set_62 ?_
              refine lv_iconst (v := (4 : Int32)) hx hb d_M_set_65 (by decide) ?_
              refine lv_iload_n hx hb d_M_set_66 rfl (lv_at hl 1 rfl) ?_
              refine lv_imul hx hb d_M_set_67 ?_
              refine lv_iload_n hx hb d_M_set_68 rfl (lv_at hl 2 rfl) ?_
              refine lv_iadd hx hb d_M_set_69 ?_
              refine va_iald (n := 120) hx hb hK hP 3 0 rfl rfl (st_in hN (isThingM_j hN c_5) (in03 c_36)) d_M_set_70 ?_
              refine lv_istore (lv' := [(4, .int (B 2 (((4 : Int32) * x) + what).toNatClampNeg)), (0, .ref (a 0)), (1, .int x), (2, .int what), (3, .int v)]) hx hb d_M_set_71 hl (by decide) rfl (fun ls hl => ?_)
              refine lv_aload_n hx hb d_M_set_73 rfl (lv_at hl 1 rfl) ?_
              refine va_get (D := D) (ci := 1) (v := .ref (a 3)) (C := R_M) (T := F_M) (N := 16) hx hb hts i_M hown hK hP 0 rfl rfl 3 (by decide) (hts _ fl_M_16) (fun _ h9 => h9) rfl d_M_set_74 ?_
              refine lv_iconst (v := (4 : Int32)) hx hb d_M_set_77 (by decide) ?_
              refine lv_iload_n hx hb d_M_set_78 rfl (lv_at hl 2 rfl) ?_
              refine lv_imul hx hb d_M_set_79 ?_
              refine lv_iload_n hx hb d_M_set_80 rfl (lv_at hl 3 rfl) ?_
              refine lv_iadd hx hb d_M_set_81 ?_
              refine lv_iload_n hx hb d_M_set_82 rfl (lv_at hl 4 rfl) ?_
              refine va_iast (n := 120) hx hb hK hP (wM_D hD) hS 3 0 rfl rfl (st_in hN (isThingM_j hN c_5) (in03 c_36)) d_M_set_83 (fun H locs hP _ hS => ?_)
              have hP : va_P D classes (wM a cI cZ (nI N) (nI K) (sU B 2 (((4 : Int32) * x) + what).toNatClampNeg v) Q) H := by have h9 := hP; rw [wM_s3] at h9; exact h9
              refine lv_iload hx hb d_M_set_84 (lv_at hl 0 rfl) ?_
              exact wRet (u := (sU B 2 (((4 : Int32) * x) + what).toNatClampNeg v, Q)) hx hb hr rfl hlk (show B 2 (((4 : Int32) * x) + what).toNatClampNeg = (m_set N K B Q x what v).1 ∧ (sU B 2 (((4 : Int32) * x) + what).toNatClampNeg v, Q) = (m_set N K B Q x what v).2 from by rw [m_set, if_neg c_5, if_neg c_14, if_pos c_24, if_neg c_36, if_pos c_43, if_neg c_55]; exact ⟨rfl, rfl⟩) hP hK hS d_M_set_86
            · refine lv_bipush (v := (-3 : Int32)) hx hb d_M_set_58 (by decide) ?_
              exact wRet (u := (B, Q)) hx hb hr rfl hlk (show (-3 : Int32) = (m_set N K B Q x what v).1 ∧ (B, Q) = (m_set N K B Q x what v).2 from by rw [m_set, if_neg c_5, if_neg c_14, if_pos c_24, if_neg c_36, if_pos c_43, if_pos c_55]; exact ⟨rfl, rfl⟩) hP hK hS d_M_set_60
          · refine lv_iconst (v := (1 : Int32)) hx hb d_M_set_46 (by decide) ?_
            refine lv_goto (tgt := 52) hx hb d_M_set_47 (by decide) ?_
            refine xst (As := [.int v, .int (0 : Int32), .int (1 : Int32)]) (rest := []) Sx (cm_in l v (0 : Int32) (1 : Int32)) v_M_in ⟨rfl, rfl, Nat.le_of_ble_eq_true rfl, Nat.le_of_ble_eq_true rfl⟩ rfl hl.1 rfl (Nat.le_of_ble_eq_true rfl) d_M_set_52 ⟨Nat.le_of_ble_eq_true rfl, Nat.le_of_ble_eq_true rfl⟩ (fun r hq => ?_)
            subst hq
            refine lv_if_ne (tgt := 61) hx hb d_M_set_55 (by decide) (fun c_55 => ?_) (fun c_55 => ?_)
            · refine lv_aload_n hx hb d_M_set_61 rfl (lv_at hl 0 rfl) ?_
              refine va_get (D := D) (ci := 1) (v := .ref (a 3)) (C := R_M) (T := F_M) (N := 16) hx hb hts i_M hown hK hP 0 rfl rfl 3 (by decide) (hts _ fl_M_16) (fun _ h9 => h9) rfl d_M_set_62 ?_
              refine lv_iconst (v := (4 : Int32)) hx hb d_M_set_65 (by decide) ?_
              refine lv_iload_n hx hb d_M_set_66 rfl (lv_at hl 1 rfl) ?_
              refine lv_imul hx hb d_M_set_67 ?_
              refine lv_iload_n hx hb d_M_set_68 rfl (lv_at hl 2 rfl) ?_
              refine lv_iadd hx hb d_M_set_69 ?_
              refine va_iald (n := 120) hx hb hK hP 3 0 rfl rfl (st_in hN (isThingM_j hN c_5) (in03 c_36)) d_M_set_70 ?_
              refine lv_istore (lv' := [(4, .int (B 2 (((4 : Int32) * x) + what).toNatClampNeg)), (0, .ref (a 0)), (1, .int x), (2, .int what), (3, .int v)]) hx hb d_M_set_71 hl (by decide) rfl (fun ls hl => ?_)
              refine lv_aload_n hx hb d_M_set_73 rfl (lv_at hl 1 rfl) ?_
              refine va_get (D := D) (ci := 1) (v := .ref (a 3)) (C := R_M) (T := F_M) (N := 16) hx hb hts i_M hown hK hP 0 rfl rfl 3 (by decide) (hts _ fl_M_16) (fun _ h9 => h9) rfl d_M_set_74 ?_
              refine lv_iconst (v := (4 : Int32)) hx hb d_M_set_77 (by decide) ?_
              refine lv_iload_n hx hb d_M_set_78 rfl (lv_at hl 2 rfl) ?_
              refine lv_imul hx hb d_M_set_79 ?_
              refine lv_iload_n hx hb d_M_set_80 rfl (lv_at hl 3 rfl) ?_
              refine lv_iadd hx hb d_M_set_81 ?_
              refine lv_iload_n hx hb d_M_set_82 rfl (lv_at hl 4 rfl) ?_
              refine va_iast (n := 120) hx hb hK hP (wM_D hD) hS 3 0 rfl rfl (st_in hN (isThingM_j hN c_5) (in03 c_36)) d_M_set_83 (fun H locs hP _ hS => ?_)
              have hP : va_P D classes (wM a cI cZ (nI N) (nI K) (sU B 2 (((4 : Int32) * x) + what).toNatClampNeg v) Q) H := by have h9 := hP; rw [wM_s3] at h9; exact h9
              refine lv_iload hx hb d_M_set_84 (lv_at hl 0 rfl) ?_
              exact wRet (u := (sU B 2 (((4 : Int32) * x) + what).toNatClampNeg v, Q)) hx hb hr rfl hlk (show B 2 (((4 : Int32) * x) + what).toNatClampNeg = (m_set N K B Q x what v).1 ∧ (sU B 2 (((4 : Int32) * x) + what).toNatClampNeg v, Q) = (m_set N K B Q x what v).2 from by rw [m_set, if_neg c_5, if_neg c_14, if_pos c_24, if_neg c_36, if_neg c_43, if_neg c_55]; exact ⟨rfl, rfl⟩) hP hK hS d_M_set_86
            · refine lv_bipush (v := (-3 : Int32)) hx hb d_M_set_58 (by decide) ?_
              exact wRet (u := (B, Q)) hx hb hr rfl hlk (show (-3 : Int32) = (m_set N K B Q x what v).1 ∧ (B, Q) = (m_set N K B Q x what v).2 from by rw [m_set, if_neg c_5, if_neg c_14, if_pos c_24, if_neg c_36, if_neg c_43, if_pos c_55]; exact ⟨rfl, rfl⟩) hP hK hS d_M_set_60
      · refine lv_bipush (v := (-2 : Int32)) hx hb d_M_set_27 (by decide) ?_
        exact wRet (u := (B, Q)) hx hb hr rfl hlk (show (-2 : Int32) = (m_set N K B Q x what v).1 ∧ (B, Q) = (m_set N K B Q x what v).2 from by rw [m_set, if_neg c_5, if_neg c_14, if_neg c_24]; exact ⟨rfl, rfl⟩) hP hK hS d_M_set_29

def m_door (N : Nat) (K : Nat) (B : Nat → Nat → Int32) (Q : Nat → Nat → Int32) (x y : Int32) : Int32 × Nat × Nat × (Nat → Nat → Int32) × (Nat → Nat → Int32) := (if (m_isOf N K B Q x (0 : Int32)) = (0 : Int32) then ((-2 : Int32), (N, K, B, Q)) else (if (m_isOf N K B Q y (0 : Int32)) = (0 : Int32) then ((-2 : Int32), (N, K, B, Q)) else (if x = y then ((-3 : Int32), (N, K, B, Q)) else (if (nI K) = (10 : Int32) then ((-7 : Int32), (N, K, B, Q)) else ((nI (K + 1)) - (1 : Int32), (N, K + 1, sU (sU (sU (sU B 3 K x) 4 K y) 5 K (0 : Int32)) 6 K (0 : Int32), Q))))))
set_option maxHeartbeats 4000000 in
set_option maxRecDepth 100000 in
theorem cm_door (l : Launch) (D : va_G) (a : Nat → Nat) (cI cZ : ClassId) (N K : Nat) (B Q : Nat → Nat → Int32) (hN : N ≤ 30) (hKK : K ≤ 10) (hC : chs N B) (hDr : drM N K B) (Z : Nat → Prop) (x y : Int32) : Met l y_M_door (Cond.code y_M_door b_M_door 3 (some .int) :: BW) ({ frames := 3, cells := 0, slots := 0, locals := 65 } : Room) (PcW D Z (wM a cI cZ (nI N) (nI K) B Q) (tM cI cZ) [.ref (a 0), .int x, .int y]) (va_Qi (fun r u => r = (m_door N K B Q x y).1 ∧ u = (m_door N K B Q x y).2) (atW D (fun u => wM a cI cZ (nI u.1) (nI u.2.1) u.2.2.1 u.2.2.2) (tM cI cZ)) Z) 0 0 Z := by
  refine wStart (by decide) rfl (Nat.le_of_ble_eq_true rfl) (fun p e s m below meth c Sx hr hlk hP hK hD hS ls hl => ?_)
  obtain ⟨hx, hb, hml, hown, hts⟩ := id Sx
  have hl : lv_has ls 3 [(0, .ref (a 0)), (1, .int x), (2, .int y)] := hl
  refine lv_aload_n hx hb d_M_door_0 rfl (lv_at hl 0 rfl) ?_
  refine lv_iload_n hx hb d_M_door_1 rfl (lv_at hl 1 rfl) ?_
  refine lv_iconst (v := (0 : Int32)) hx hb d_M_door_2 (by decide) ?_
  refine xro (As := [.int x, .int (0 : Int32)]) (rest := []) Sx (cm_isOf l D a cI cZ N K B Q hN hKK hC hDr x (0 : Int32)) v_M_isOf ⟨rfl, rfl, Nat.le_of_ble_eq_true rfl, Nat.le_of_ble_eq_true rfl⟩ hK hP (ci := 1) (q0 := 0) rfl rfl rfl hl.1 rfl (Nat.le_of_ble_eq_true rfl) d_M_door_3 ⟨Nat.le_of_ble_eq_true rfl, Nat.le_of_ble_eq_true rfl⟩ (fun r hq => ?_)
  subst hq
  refine lv_if_eq (tgt := 18) hx hb d_M_door_6 (by decide) (fun c_6 => ?_) (fun c_6 => ?_)
  · refine lv_bipush (v := (-2 : Int32)) hx hb d_M_door_18 (by decide) ?_
    exact wRet (u := (N, K, B, Q)) hx hb hr rfl hlk (show (-2 : Int32) = (m_door N K B Q x y).1 ∧ (N, K, B, Q) = (m_door N K B Q x y).2 from by rw [m_door, if_pos c_6]; exact ⟨rfl, rfl⟩) hP hK hS d_M_door_20
  · refine lv_aload_n hx hb d_M_door_9 rfl (lv_at hl 0 rfl) ?_
    refine lv_iload_n hx hb d_M_door_10 rfl (lv_at hl 2 rfl) ?_
    refine lv_iconst (v := (0 : Int32)) hx hb d_M_door_11 (by decide) ?_
    refine xro (As := [.int y, .int (0 : Int32)]) (rest := []) Sx (cm_isOf l D a cI cZ N K B Q hN hKK hC hDr y (0 : Int32)) v_M_isOf ⟨rfl, rfl, Nat.le_of_ble_eq_true rfl, Nat.le_of_ble_eq_true rfl⟩ hK hP (ci := 1) (q0 := 0) rfl rfl rfl hl.1 rfl (Nat.le_of_ble_eq_true rfl) d_M_door_12 ⟨Nat.le_of_ble_eq_true rfl, Nat.le_of_ble_eq_true rfl⟩ (fun r hq => ?_)
    subst hq
    refine lv_if_ne (tgt := 21) hx hb d_M_door_15 (by decide) (fun c_15 => ?_) (fun c_15 => ?_)
    · refine lv_iload_n hx hb d_M_door_21 rfl (lv_at hl 1 rfl) ?_
      refine lv_iload_n hx hb d_M_door_22 rfl (lv_at hl 2 rfl) ?_
      refine lv_icmp_ne (tgt := 29) hx hb d_M_door_23 (by decide) (fun c_23 => ?_) (fun c_23 => ?_)
      · refine lv_aload_n hx hb d_M_door_29 rfl (lv_at hl 0 rfl) ?_
        refine va_get (D := D) (ci := 1) (v := .int (nI K)) (C := R_M) (T := F_M) (N := 16) hx hb hts i_M hown hK hP 0 rfl rfl 4 (by decide) (hts _ fl_M_63) (fun _ h9 => h9) rfl d_M_door_30 ?_
        refine lv_bipush (v := (10 : Int32)) hx hb d_M_door_33 (by decide) ?_
        refine lv_icmp_ne (tgt := 41) hx hb d_M_door_35 (by decide) (fun c_35 => ?_) (fun c_35 => ?_)
        · refine lv_aload_n hx hb d_M_door_41 rfl (lv_at hl 0 rfl) ?_
          refine va_get (D := D) (ci := 1) (v := .ref (a 4)) (C := R_M) (T := F_M) (N := 16) hx hb hts i_M hown hK hP 0 rfl rfl 5 (by decide) (hts _ fl_M_19) (fun _ h9 => h9) rfl d_M_door_42 ?_
          refine lv_aload_n hx hb d_M_door_45 rfl (lv_at hl 0 rfl) ?_
          refine va_get (D := D) (ci := 1) (v := .int (nI K)) (C := R_M) (T := F_M) (N := 16) hx hb hts i_M hown hK hP 0 rfl rfl 4 (by decide) (hts _ fl_M_63) (fun _ h9 => h9) rfl d_M_door_46 ?_
          refine lv_iload_n hx hb d_M_door_49 rfl (lv_at hl 1 rfl) ?_
          refine x_iastN (n := 10) hx hb hK hP (wM_D hD) hS 4 0 rfl rfl (lt10 hKK c_35) (by omega) d_M_door_50 (fun H locs hP _ hS => ?_)
          have hP : va_P D classes (wM a cI cZ (nI N) (nI K) (sU B 3 K x) Q) H := by have h9 := hP; rw [wM_s4] at h9; exact h9
          refine lv_aload_n hx hb d_M_door_51 rfl (lv_at hl 0 rfl) ?_
          refine va_get (D := D) (ci := 1) (v := .ref (a 5)) (C := R_M) (T := F_M) (N := 16) hx hb hts i_M hown hK hP 0 rfl rfl 6 (by decide) (hts _ fl_M_22) (fun _ h9 => h9) rfl d_M_door_52 ?_
          refine lv_aload_n hx hb d_M_door_55 rfl (lv_at hl 0 rfl) ?_
          refine va_get (D := D) (ci := 1) (v := .int (nI K)) (C := R_M) (T := F_M) (N := 16) hx hb hts i_M hown hK hP 0 rfl rfl 4 (by decide) (hts _ fl_M_63) (fun _ h9 => h9) rfl d_M_door_56 ?_
          refine lv_iload_n hx hb d_M_door_59 rfl (lv_at hl 2 rfl) ?_
          refine x_iastN (n := 10) hx hb hK hP (wM_D hD) hS 5 0 rfl rfl (lt10 hKK c_35) (by omega) d_M_door_60 (fun H locs hP _ hS => ?_)
          have hP : va_P D classes (wM a cI cZ (nI N) (nI K) (sU (sU B 3 K x) 4 K y) Q) H := by have h9 := hP; rw [wM_s5] at h9; exact h9
          refine lv_aload_n hx hb d_M_door_61 rfl (lv_at hl 0 rfl) ?_
          refine va_get (D := D) (ci := 1) (v := .ref (a 6)) (C := R_M) (T := F_M) (N := 16) hx hb hts i_M hown hK hP 0 rfl rfl 7 (by decide) (hts _ fl_M_25) (fun _ h9 => h9) rfl d_M_door_62 ?_
          refine lv_aload_n hx hb d_M_door_65 rfl (lv_at hl 0 rfl) ?_
          refine va_get (D := D) (ci := 1) (v := .int (nI K)) (C := R_M) (T := F_M) (N := 16) hx hb hts i_M hown hK hP 0 rfl rfl 4 (by decide) (hts _ fl_M_63) (fun _ h9 => h9) rfl d_M_door_66 ?_
          refine lv_iconst (v := (0 : Int32)) hx hb d_M_door_69 (by decide) ?_
          refine x_iastN (n := 10) hx hb hK hP (wM_D hD) hS 6 0 rfl rfl (lt10 hKK c_35) (by omega) d_M_door_70 (fun H locs hP _ hS => ?_)
          have hP : va_P D classes (wM a cI cZ (nI N) (nI K) (sU (sU (sU B 3 K x) 4 K y) 5 K (0 : Int32)) Q) H := by have h9 := hP; rw [wM_s6] at h9; exact h9
          refine lv_aload_n hx hb d_M_door_71 rfl (lv_at hl 0 rfl) ?_
          refine va_get (D := D) (ci := 1) (v := .ref (a 7)) (C := R_M) (T := F_M) (N := 16) hx hb hts i_M hown hK hP 0 rfl rfl 8 (by decide) (hts _ fl_M_28) (fun _ h9 => h9) rfl d_M_door_72 ?_
          refine lv_aload_n hx hb d_M_door_75 rfl (lv_at hl 0 rfl) ?_
          refine va_get (D := D) (ci := 1) (v := .int (nI K)) (C := R_M) (T := F_M) (N := 16) hx hb hts i_M hown hK hP 0 rfl rfl 4 (by decide) (hts _ fl_M_63) (fun _ h9 => h9) rfl d_M_door_76 ?_
          refine lv_iconst (v := (0 : Int32)) hx hb d_M_door_79 (by decide) ?_
          refine x_iastN (n := 10) hx hb hK hP (wM_D hD) hS 7 0 rfl rfl (lt10 hKK c_35) (by omega) d_M_door_80 (fun H locs hP _ hS => ?_)
          have hP : va_P D classes (wM a cI cZ (nI N) (nI K) (sU (sU (sU (sU B 3 K x) 4 K y) 5 K (0 : Int32)) 6 K (0 : Int32)) Q) H := by have h9 := hP; rw [wM_s7] at h9; exact h9
          refine lv_aload_n hx hb d_M_door_81 rfl (lv_at hl 0 rfl) ?_
          refine lv_dup hx hb d_M_door_82 rfl ?_
          refine va_get (D := D) (ci := 1) (v := .int (nI K)) (C := R_M) (T := F_M) (N := 16) hx hb hts i_M hown hK hP 0 rfl rfl 4 (by decide) (hts _ fl_M_63) (fun _ h9 => h9) rfl d_M_door_83 ?_
          refine lv_iconst (v := (1 : Int32)) hx hb d_M_door_86 (by decide) ?_
          refine x_iadd1 hx hb d_M_door_87 ?_
          refine va_put (D := D) (ci := 1) (v := .int (nI (K + 1))) (ty := .int) (C := R_M) (T := F_M) (N := 16) hx hb hts i_M t_M t_M_ok n_M hown hK hP (wM_D hD) hS 0 rfl rfl 4 (by decide) (hts _ fl_M_63) (fun _ h9 => h9) rfl (by decide +kernel) rfl rfl (Nat.le_of_ble_eq_true rfl) d_M_door_88 (fun H locs hP _ hS => ?_)
          have hP : va_P D classes (wM a cI cZ (nI N) (nI (K + 1)) (sU (sU (sU (sU B 3 K x) 4 K y) 5 K (0 : Int32)) 6 K (0 : Int32)) Q) H := hP
          refine lv_aload_n hx hb d_M_door_91 rfl (lv_at hl 0 rfl) ?_
          refine va_get (D := D) (ci := 1) (v := .int (nI (K + 1))) (C := R_M) (T := F_M) (N := 16) hx hb hts i_M hown hK hP 0 rfl rfl 4 (by decide) (hts _ fl_M_63) (fun _ h9 => h9) rfl d_M_door_92 ?_
          refine lv_iconst (v := (1 : Int32)) hx hb d_M_door_95 (by decide) ?_
          refine lv_isub hx hb d_M_door_96 ?_
          exact wRet (u := (N, K + 1, sU (sU (sU (sU B 3 K x) 4 K y) 5 K (0 : Int32)) 6 K (0 : Int32), Q)) hx hb hr rfl hlk (show (nI (K + 1)) - (1 : Int32) = (m_door N K B Q x y).1 ∧ (N, K + 1, sU (sU (sU (sU B 3 K x) 4 K y) 5 K (0 : Int32)) 6 K (0 : Int32), Q) = (m_door N K B Q x y).2 from by rw [m_door, if_neg c_6, if_neg c_15, if_neg c_23, if_neg c_35]; exact ⟨rfl, rfl⟩) hP hK hS d_M_door_97
        · refine lv_bipush (v := (-7 : Int32)) hx hb d_M_door_38 (by decide) ?_
          exact wRet (u := (N, K, B, Q)) hx hb hr rfl hlk (show (-7 : Int32) = (m_door N K B Q x y).1 ∧ (N, K, B, Q) = (m_door N K B Q x y).2 from by rw [m_door, if_neg c_6, if_neg c_15, if_neg c_23, if_pos c_35]; exact ⟨rfl, rfl⟩) hP hK hS d_M_door_40
      · refine lv_bipush (v := (-3 : Int32)) hx hb d_M_door_26 (by decide) ?_
        exact wRet (u := (N, K, B, Q)) hx hb hr rfl hlk (show (-3 : Int32) = (m_door N K B Q x y).1 ∧ (N, K, B, Q) = (m_door N K B Q x y).2 from by rw [m_door, if_neg c_6, if_neg c_15, if_pos c_23]; exact ⟨rfl, rfl⟩) hP hK hS d_M_door_28
    · refine lv_bipush (v := (-2 : Int32)) hx hb d_M_door_18 (by decide) ?_
      exact wRet (u := (N, K, B, Q)) hx hb hr rfl hlk (show (-2 : Int32) = (m_door N K B Q x y).1 ∧ (N, K, B, Q) = (m_door N K B Q x y).2 from by rw [m_door, if_neg c_6, if_pos c_15]; exact ⟨rfl, rfl⟩) hP hK hS d_M_door_20

def m_turn (N : Nat) (K : Nat) (B : Nat → Nat → Int32) (Q : Nat → Nat → Int32) (dr what v : Int32) : Int32 × (Nat → Nat → Int32) × (Nat → Nat → Int32) := (if (m_isDoor N K B Q dr) = (0 : Int32) then ((-2 : Int32), (B, Q)) else (if (m_in what (0 : Int32) (1 : Int32)) = (0 : Int32) then ((-3 : Int32), (B, Q)) else (if (m_in v (0 : Int32) (1 : Int32)) = (0 : Int32) then ((-3 : Int32), (B, Q)) else (if what = (0 : Int32) then (B 5 dr.toNatClampNeg, (sU B 5 dr.toNatClampNeg v, Q)) else (B 6 dr.toNatClampNeg, (sU B 6 dr.toNatClampNeg v, Q))))))
set_option maxHeartbeats 4000000 in
set_option maxRecDepth 100000 in
theorem cm_turn (l : Launch) (D : va_G) (a : Nat → Nat) (cI cZ : ClassId) (N K : Nat) (B Q : Nat → Nat → Int32) (hN : N ≤ 30) (hKK : K ≤ 10) (hC : chs N B) (hDr : drM N K B) (Z : Nat → Prop) (dr what v : Int32) : Met l y_M_turn (Cond.code y_M_turn b_M_turn 5 (some .int) :: BW) ({ frames := 2, cells := 0, slots := 0, locals := 43 } : Room) (PcW D Z (wM a cI cZ (nI N) (nI K) B Q) (tM cI cZ) [.ref (a 0), .int dr, .int what, .int v]) (va_Qi (fun r u => r = (m_turn N K B Q dr what v).1 ∧ u = (m_turn N K B Q dr what v).2) (atW D (fun u => wM a cI cZ (nI N) (nI K) u.1 u.2) (tM cI cZ)) Z) 0 0 Z := by
  refine wStart (by decide) rfl (Nat.le_of_ble_eq_true rfl) (fun p e s m below meth c Sx hr hlk hP hK hD hS ls hl => ?_)
  obtain ⟨hx, hb, hml, hown, hts⟩ := id Sx
  have hl : lv_has ls 5 [(0, .ref (a 0)), (1, .int dr), (2, .int what), (3, .int v)] := hl
  refine lv_aload_n hx hb d_M_turn_0 rfl (lv_at hl 0 rfl) ?_
  refine lv_iload_n hx hb d_M_turn_1 rfl (lv_at hl 1 rfl) ?_
  refine xro (As := [.int dr]) (rest := []) Sx (cm_isDoor l D a cI cZ N K B Q hN hKK hC hDr dr) v_M_isDoor ⟨rfl, rfl, Nat.le_of_ble_eq_true rfl, Nat.le_of_ble_eq_true rfl⟩ hK hP (ci := 1) (q0 := 0) rfl rfl rfl hl.1 rfl (Nat.le_of_ble_eq_true rfl) d_M_turn_2 ⟨Nat.le_of_ble_eq_true rfl, Nat.le_of_ble_eq_true rfl⟩ (fun r hq => ?_)
  subst hq
  refine lv_if_ne (tgt := 11) hx hb d_M_turn_5 (by decide) (fun c_5 => ?_) (fun c_5 => ?_)
  · refine lv_iload_n hx hb d_M_turn_11 rfl (lv_at hl 2 rfl) ?_
    refine lv_iconst (v := (0 : Int32)) hx hb d_M_turn_12 (by decide) ?_
    refine lv_iconst (v := (1 : Int32)) hx hb d_M_turn_13 (by decide) ?_
    refine xst (As := [.int what, .int (0 : Int32), .int (1 : Int32)]) (rest := []) Sx (cm_in l what (0 : Int32) (1 : Int32)) v_M_in ⟨rfl, rfl, Nat.le_of_ble_eq_true rfl, Nat.le_of_ble_eq_true rfl⟩ rfl hl.1 rfl (Nat.le_of_ble_eq_true rfl) d_M_turn_14 ⟨Nat.le_of_ble_eq_true rfl, Nat.le_of_ble_eq_true rfl⟩ (fun r hq => ?_)
    subst hq
    refine lv_if_eq (tgt := 29) hx hb d_M_turn_17 (by decide) (fun c_17 => ?_) (fun c_17 => ?_)
    · refine lv_bipush (v := (-3 : Int32)) hx hb d_M_turn_29 (by decide) ?_
      exact wRet (u := (B, Q)) hx hb hr rfl hlk (show (-3 : Int32) = (m_turn N K B Q dr what v).1 ∧ (B, Q) = (m_turn N K B Q dr what v).2 from by rw [m_turn, if_neg c_5, if_pos c_17]; exact ⟨rfl, rfl⟩) hP hK hS d_M_turn_31
    · refine lv_iload_n hx hb d_M_turn_20 rfl (lv_at hl 3 rfl) ?_
      refine lv_iconst (v := (0 : Int32)) hx hb d_M_turn_21 (by decide) ?_
      refine lv_iconst (v := (1 : Int32)) hx hb d_M_turn_22 (by decide) ?_
      refine xst (As := [.int v, .int (0 : Int32), .int (1 : Int32)]) (rest := []) Sx (cm_in l v (0 : Int32) (1 : Int32)) v_M_in ⟨rfl, rfl, Nat.le_of_ble_eq_true rfl, Nat.le_of_ble_eq_true rfl⟩ rfl hl.1 rfl (Nat.le_of_ble_eq_true rfl) d_M_turn_23 ⟨Nat.le_of_ble_eq_true rfl, Nat.le_of_ble_eq_true rfl⟩ (fun r hq => ?_)
      subst hq
      refine lv_if_ne (tgt := 32) hx hb d_M_turn_26 (by decide) (fun c_26 => ?_) (fun c_26 => ?_)
      · refine lv_iload_n hx hb d_M_turn_32 rfl (lv_at hl 2 rfl) ?_
        refine lv_if_ne (tgt := 45) hx hb d_M_turn_33 (by decide) (fun c_33 => ?_) (fun c_33 => ?_)
        · refine lv_aload_n hx hb d_M_turn_45 rfl (lv_at hl 0 rfl) ?_
          refine va_get (D := D) (ci := 1) (v := .ref (a 7)) (C := R_M) (T := F_M) (N := 16) hx hb hts i_M hown hK hP 0 rfl rfl 8 (by decide) (hts _ fl_M_28) (fun _ h9 => h9) rfl d_M_turn_46 ?_
          refine lv_iload_n hx hb d_M_turn_49 rfl (lv_at hl 1 rfl) ?_
          refine va_iald (n := 10) hx hb hK hP 7 0 rfl rfl (dr_in hKK (isDoorM_j hKK c_5)) d_M_turn_50 ?_
          refine lv_istore (lv' := [(4, .int (B 6 dr.toNatClampNeg)), (0, .ref (a 0)), (1, .int dr), (2, .int what), (3, .int v)]) hx hb d_M_turn_51 hl (by decide) rfl (fun ls hl => ?_)
          refine lv_iload_n hx hb d_M_turn_53 rfl (lv_at hl 3 rfl) ?_
          refine lv_if_ne (tgt := 67) hx hb d_M_turn_54 (by decide) (fun c_54 => ?_) (fun c_54 => absurd c_54 c_33)
          refine lv_aload_n hx hb d_M_turn_67 rfl (lv_at hl 1 rfl) ?_
          refine va_get (D := D) (ci := 1) (v := .ref (a 7)) (C := R_M) (T := F_M) (N := 16) hx hb hts i_M hown hK hP 0 rfl rfl 8 (by decide) (hts _ fl_M_28) (fun _ h9 => h9) rfl d_M_turn_68 ?_
          refine lv_iload_n hx hb d_M_turn_71 rfl (lv_at hl 2 rfl) ?_
          refine lv_iload_n hx hb d_M_turn_72 rfl (lv_at hl 4 rfl) ?_
          refine va_iast (n := 10) hx hb hK hP (wM_D hD) hS 7 0 rfl rfl (dr_in hKK (isDoorM_j hKK c_5)) d_M_turn_73 (fun H locs hP _ hS => ?_)
          have hP : va_P D classes (wM a cI cZ (nI N) (nI K) (sU B 6 dr.toNatClampNeg v) Q) H := by have h9 := hP; rw [wM_s7] at h9; exact h9
          refine lv_iload hx hb d_M_turn_74 (lv_at hl 0 rfl) ?_
          exact wRet (u := (sU B 6 dr.toNatClampNeg v, Q)) hx hb hr rfl hlk (show B 6 dr.toNatClampNeg = (m_turn N K B Q dr what v).1 ∧ (sU B 6 dr.toNatClampNeg v, Q) = (m_turn N K B Q dr what v).2 from by rw [m_turn, if_neg c_5, if_neg c_17, if_neg c_26, if_neg c_33]; exact ⟨rfl, rfl⟩) hP hK hS d_M_turn_76
        · refine lv_aload_n hx hb d_M_turn_36 rfl (lv_at hl 0 rfl) ?_
          refine va_get (D := D) (ci := 1) (v := .ref (a 6)) (C := R_M) (T := F_M) (N := 16) hx hb hts i_M hown hK hP 0 rfl rfl 7 (by decide) (hts _ fl_M_25) (fun _ h9 => h9) rfl d_M_turn_37 ?_
          refine lv_iload_n hx hb d_M_turn_40 rfl (lv_at hl 1 rfl) ?_
          refine va_iald (n := 10) hx hb hK hP 6 0 rfl rfl (dr_in hKK (isDoorM_j hKK c_5)) d_M_turn_41 ?_
          refine lv_goto (tgt := 51) hx hb d_M_turn_42 (by decide) ?_
          refine lv_istore (lv' := [(4, .int (B 5 dr.toNatClampNeg)), (0, .ref (a 0)), (1, .int dr), (2, .int what), (3, .int v)]) hx hb d_M_turn_51 hl (by decide) rfl (fun ls hl => ?_)
          refine lv_iload_n hx hb d_M_turn_53 rfl (lv_at hl 3 rfl) ?_
          refine lv_if_ne (tgt := 67) hx hb d_M_turn_54 (by decide) (fun c_54 => absurd c_33 c_54) (fun c_54 => ?_)
          refine lv_aload_n hx hb d_M_turn_57 rfl (lv_at hl 1 rfl) ?_
          refine va_get (D := D) (ci := 1) (v := .ref (a 6)) (C := R_M) (T := F_M) (N := 16) hx hb hts i_M hown hK hP 0 rfl rfl 7 (by decide) (hts _ fl_M_25) (fun _ h9 => h9) rfl d_M_turn_58 ?_
          refine lv_iload_n hx hb d_M_turn_61 rfl (lv_at hl 2 rfl) ?_
          refine lv_iload_n hx hb d_M_turn_62 rfl (lv_at hl 4 rfl) ?_
          refine va_iast (n := 10) hx hb hK hP (wM_D hD) hS 6 0 rfl rfl (dr_in hKK (isDoorM_j hKK c_5)) d_M_turn_63 (fun H locs hP _ hS => ?_)
          have hP : va_P D classes (wM a cI cZ (nI N) (nI K) (sU B 5 dr.toNatClampNeg v) Q) H := by have h9 := hP; rw [wM_s6] at h9; exact h9
          refine lv_goto (tgt := 74) hx hb d_M_turn_64 (by decide) ?_
          refine lv_iload hx hb d_M_turn_74 (lv_at hl 0 rfl) ?_
          exact wRet (u := (sU B 5 dr.toNatClampNeg v, Q)) hx hb hr rfl hlk (show B 5 dr.toNatClampNeg = (m_turn N K B Q dr what v).1 ∧ (sU B 5 dr.toNatClampNeg v, Q) = (m_turn N K B Q dr what v).2 from by rw [m_turn, if_neg c_5, if_neg c_17, if_neg c_26, if_pos c_33]; exact ⟨rfl, rfl⟩) hP hK hS d_M_turn_76
      · refine lv_bipush (v := (-3 : Int32)) hx hb d_M_turn_29 (by decide) ?_
        exact wRet (u := (B, Q)) hx hb hr rfl hlk (show (-3 : Int32) = (m_turn N K B Q dr what v).1 ∧ (B, Q) = (m_turn N K B Q dr what v).2 from by rw [m_turn, if_neg c_5, if_neg c_17, if_pos c_26]; exact ⟨rfl, rfl⟩) hP hK hS d_M_turn_31
  · refine lv_bipush (v := (-2 : Int32)) hx hb d_M_turn_8 (by decide) ?_
    exact wRet (u := (B, Q)) hx hb hr rfl hlk (show (-2 : Int32) = (m_turn N K B Q dr what v).1 ∧ (B, Q) = (m_turn N K B Q dr what v).2 from by rw [m_turn, if_pos c_5]; exact ⟨rfl, rfl⟩) hP hK hS d_M_turn_10
