def k_turningPoint_5 (N K : Nat) (A : Nat → Nat → Int32) (x : Int32) : Nat → Nat → Int32 → Int32
  | 0, i, v3 => (-1 : Int32)
  | k + 1, i, v3 => (if v3 = (-1 : Int32) then (-1 : Int32) else (if v3 = x then v3 else (if (k_isWithin N K A x v3) = (0 : Int32) then k_turningPoint_5 N K A x k (i + 1) (k_holderOf N K A v3) else v3)))
theorem k_turningPoint_5_0 (N K : Nat) (A : Nat → Nat → Int32) (x : Int32) (i : Nat) (v3 : Int32) : k_turningPoint_5 N K A x 0 i v3 = (-1 : Int32) := rfl
theorem k_turningPoint_5_S (N K : Nat) (A : Nat → Nat → Int32) (x : Int32) (k i : Nat) (v3 : Int32) : k_turningPoint_5 N K A x (k + 1) i v3 = (if v3 = (-1 : Int32) then (-1 : Int32) else (if v3 = x then v3 else (if (k_isWithin N K A x v3) = (0 : Int32) then k_turningPoint_5 N K A x k (i + 1) (k_holderOf N K A v3) else v3))) := rfl
set_option maxHeartbeats 4000000 in
set_option maxRecDepth 100000 in
theorem wk_turningPoint_5 (l : Launch) (D : va_G) (a : Nat → Nat) (cI cII : ClassId) (N K : Nat) (A : Nat → Nat → Int32) (hN : N ≤ 30) (hKK : K ≤ 10) (who x : Int32) {p : Program} {e : Env} {s : State} {m : MethodId} {below : List Frame} {meth : Method} {c : Code} (Sx : CallFix p m c b_C_turningPoint 5 s ([.ref (a 0), .int who, .int x] : List Value).toArray BW R_C) (hr : meth.sig.returnType = (some .int)) (hlk : meth.locks = false) (hP : va_P D classes (wC a cI cII (nI N) (nI K) A) s.heap) (hK : va_K D classes (tC cI cII) s) : ∀ (k i : Nat), i + k = 30 → ∀ (v3 : Int32) (ls : Array Slot), lv_has ls 5 [(0, .ref (a 0)), (1, .int who), (2, .int x), (3, .int v3), (4, .int (nI i))] → W p l e ({ frames := 3, cells := 0, slots := 0, locals := 66 } : Room) s m ([.ref (a 0), .int who, .int x] : List Value).toArray below meth c s.heap [] 0 0 (MQ below (vp_Si (fun r => r = k_turningPoint_5 N K A x k i v3)) ([.ref (a 0), .int who, .int x] : List Value).toArray s 0 0 (fun _ => False)) (F0 m 5 ls []) := by
  obtain ⟨hx, hb, hml, hown, hts⟩ := id Sx
  intro k
  induction k with
  | zero =>
    intro i hi v3 ls hl
    refine lv_iload hx hb d_C_turningPoint_5 (lv_at hl 4 rfl) ?_
    refine lv_bipush (v := (30 : Int32)) hx hb d_C_turningPoint_7 (by decide) ?_
    refine lv_icmp_ge (tgt := 45) hx hb d_C_turningPoint_9 (by decide) (fun c_9 => ?_) (fun c_9 => absurd (nI_le (a := 30) (b := i) (by omega) (by omega)) c_9)
    refine lv_iconst (v := (-1 : Int32)) hx hb d_C_turningPoint_45 (by decide) ?_
    exact roRet hx hb hr rfl hlk (show (-1 : Int32) = k_turningPoint_5 N K A x 0 i v3 from by rw [k_turningPoint_5_0]) d_C_turningPoint_46
  | succ k ih =>
    intro i hi v3 ls hl
    refine lv_iload hx hb d_C_turningPoint_5 (lv_at hl 4 rfl) ?_
    refine lv_bipush (v := (30 : Int32)) hx hb d_C_turningPoint_7 (by decide) ?_
    refine lv_icmp_ge (tgt := 45) hx hb d_C_turningPoint_9 (by decide) (fun c_9 => absurd c_9 (nI_ge (a := i) (b := 30) (by omega) (by omega))) (fun c_9 => ?_)
    refine lv_iload_n hx hb d_C_turningPoint_12 rfl (lv_at hl 3 rfl) ?_
    refine lv_iconst (v := (-1 : Int32)) hx hb d_C_turningPoint_13 (by decide) ?_
    refine lv_icmp_eq (tgt := 45) hx hb d_C_turningPoint_14 (by decide) (fun c_14 => ?_) (fun c_14 => ?_)
    · refine lv_iconst (v := (-1 : Int32)) hx hb d_C_turningPoint_45 (by decide) ?_
      exact roRet hx hb hr rfl hlk (show (-1 : Int32) = k_turningPoint_5 N K A x (k + 1) i v3 from by rw [k_turningPoint_5_S, if_pos c_14]) d_C_turningPoint_46
    · refine lv_iload_n hx hb d_C_turningPoint_17 rfl (lv_at hl 3 rfl) ?_
      refine lv_iload_n hx hb d_C_turningPoint_18 rfl (lv_at hl 2 rfl) ?_
      refine lv_icmp_eq (tgt := 31) hx hb d_C_turningPoint_19 (by decide) (fun c_19 => ?_) (fun c_19 => ?_)
      · refine lv_iload_n hx hb d_C_turningPoint_31 rfl (lv_at hl 3 rfl) ?_
        exact roRet hx hb hr rfl hlk (show v3 = k_turningPoint_5 N K A x (k + 1) i v3 from by rw [k_turningPoint_5_S, if_neg c_14, if_pos c_19]) d_C_turningPoint_32
      · refine lv_aload_n hx hb d_C_turningPoint_22 rfl (lv_at hl 0 rfl) ?_
        refine lv_iload_n hx hb d_C_turningPoint_23 rfl (lv_at hl 2 rfl) ?_
        refine lv_iload_n hx hb d_C_turningPoint_24 rfl (lv_at hl 3 rfl) ?_
        refine xro (As := [.int x, .int v3]) (rest := []) Sx (ck_isWithin l D a cI cII N K A hN hKK x v3) v_C_isWithin ⟨rfl, rfl, Nat.le_of_ble_eq_true rfl, Nat.le_of_ble_eq_true rfl⟩ hK hP (ci := 0) (q0 := 0) rfl rfl rfl hl.1 rfl (Nat.le_of_ble_eq_true rfl) d_C_turningPoint_25 ⟨Nat.le_of_ble_eq_true rfl, Nat.le_of_ble_eq_true rfl⟩ (fun r hq => ?_)
        subst hq
        refine lv_if_eq (tgt := 33) hx hb d_C_turningPoint_28 (by decide) (fun c_28 => ?_) (fun c_28 => ?_)
        · refine lv_aload_n hx hb d_C_turningPoint_33 rfl (lv_at hl 0 rfl) ?_
          refine lv_iload_n hx hb d_C_turningPoint_34 rfl (lv_at hl 3 rfl) ?_
          refine xro (As := [.int v3]) (rest := []) Sx (ck_holderOf l D a cI cII N K A hN hKK v3) v_C_holderOf ⟨rfl, rfl, Nat.le_of_ble_eq_true rfl, Nat.le_of_ble_eq_true rfl⟩ hK hP (ci := 0) (q0 := 0) rfl rfl rfl hl.1 rfl (Nat.le_of_ble_eq_true rfl) d_C_turningPoint_35 ⟨Nat.le_of_ble_eq_true rfl, Nat.le_of_ble_eq_true rfl⟩ (fun r hq => ?_)
          subst hq
          refine lv_istore_n (lv' := [(3, .int (k_holderOf N K A v3)), (0, .ref (a 0)), (1, .int who), (2, .int x), (4, .int (nI i))]) hx hb d_C_turningPoint_38 rfl hl (by decide) rfl (fun ls hl => ?_)
          refine lv_iinc (v := nI (i + 1)) (lv' := [(4, .int (nI (i + 1))), (3, .int (k_holderOf N K A v3)), (0, .ref (a 0)), (1, .int who), (2, .int x)]) hx hb d_C_turningPoint_39 hl (k := 4) rfl (nI_1 i) (by decide) rfl (fun ls hl => ?_)
          refine lv_goto (tgt := 5) hx hb d_C_turningPoint_42 (by decide) ?_
          have e_b : k_turningPoint_5 N K A x (k + 1) i v3 = k_turningPoint_5 N K A x k (i + 1) (k_holderOf N K A v3) := by rw [k_turningPoint_5_S, if_neg c_14, if_neg c_19, if_pos c_28]
          rw [e_b]
          exact ih (i + 1) (by omega) (k_holderOf N K A v3) ls (lv_sub hl [2, 3, 4, 1, 0] rfl)
        · refine lv_iload_n hx hb d_C_turningPoint_31 rfl (lv_at hl 3 rfl) ?_
          exact roRet hx hb hr rfl hlk (show v3 = k_turningPoint_5 N K A x (k + 1) i v3 from by rw [k_turningPoint_5_S, if_neg c_14, if_neg c_19, if_neg c_28]) d_C_turningPoint_32
def k_turningPoint (N K : Nat) (A : Nat → Nat → Int32) (who x : Int32) : Int32 := k_turningPoint_5 N K A x 30 0 who
set_option maxHeartbeats 4000000 in
set_option maxRecDepth 100000 in
theorem ck_turningPoint (l : Launch) (D : va_G) (a : Nat → Nat) (cI cII : ClassId) (N K : Nat) (A : Nat → Nat → Int32) (hN : N ≤ 30) (hKK : K ≤ 10) (who x : Int32) : Met l y_C_turningPoint (Cond.code y_C_turningPoint b_C_turningPoint 5 (some .int) :: BW) ({ frames := 3, cells := 0, slots := 0, locals := 66 } : Room) (PcR D (wC a cI cII (nI N) (nI K) A) (tC cI cII) [.ref (a 0), .int who, .int x]) (vp_Si (fun r => r = k_turningPoint N K A who x)) 0 0 (fun _ => False) := by
  refine roStart (by decide) rfl (Nat.le_of_ble_eq_true rfl) (fun p e s m below meth c Sx hr hlk hP hK ls hl => ?_)
  obtain ⟨hx, hb, hml, hown, hts⟩ := id Sx
  have hl : lv_has ls 5 [(0, .ref (a 0)), (1, .int who), (2, .int x)] := hl
  refine lv_iload_n hx hb d_C_turningPoint_0 rfl (lv_at hl 1 rfl) ?_
  refine lv_istore_n (lv' := [(3, .int who), (0, .ref (a 0)), (1, .int who), (2, .int x)]) hx hb d_C_turningPoint_1 rfl hl (by decide) rfl (fun ls hl => ?_)
  refine lv_iconst (v := (0 : Int32)) hx hb d_C_turningPoint_2 (by decide) ?_
  refine lv_istore (lv' := [(4, .int (0 : Int32)), (3, .int who), (0, .ref (a 0)), (1, .int who), (2, .int x)]) hx hb d_C_turningPoint_3 hl (by decide) rfl (fun ls hl => ?_)
  have e_5 : k_turningPoint N K A who x = k_turningPoint_5 N K A x 30 0 who := by rw [k_turningPoint]
  rw [e_5]
  exact wk_turningPoint_5 l D a cI cII N K A hN hKK who x Sx hr hlk hP hK 30 0 (by omega) who ls (lv_sub hl [2, 3, 4, 1, 0] rfl)

def k_firstBarrierOut_5 (N K : Nat) (A : Nat → Nat → Int32) (tp : Int32) : Nat → Nat → Int32 → Int32
  | 0, i, v3 => (-1 : Int32)
  | k + 1, i, v3 => (if v3 = tp then (-1 : Int32) else (if v3 = (-1 : Int32) then (-1 : Int32) else (if (k_isShutBox N K A v3) = (0 : Int32) then k_firstBarrierOut_5 N K A tp k (i + 1) (k_holderOf N K A v3) else v3)))
theorem k_firstBarrierOut_5_0 (N K : Nat) (A : Nat → Nat → Int32) (tp : Int32) (i : Nat) (v3 : Int32) : k_firstBarrierOut_5 N K A tp 0 i v3 = (-1 : Int32) := rfl
theorem k_firstBarrierOut_5_S (N K : Nat) (A : Nat → Nat → Int32) (tp : Int32) (k i : Nat) (v3 : Int32) : k_firstBarrierOut_5 N K A tp (k + 1) i v3 = (if v3 = tp then (-1 : Int32) else (if v3 = (-1 : Int32) then (-1 : Int32) else (if (k_isShutBox N K A v3) = (0 : Int32) then k_firstBarrierOut_5 N K A tp k (i + 1) (k_holderOf N K A v3) else v3))) := rfl
set_option maxHeartbeats 4000000 in
set_option maxRecDepth 100000 in
theorem wk_firstBarrierOut_5 (l : Launch) (D : va_G) (a : Nat → Nat) (cI cII : ClassId) (N K : Nat) (A : Nat → Nat → Int32) (hN : N ≤ 30) (hKK : K ≤ 10) (who tp : Int32) {p : Program} {e : Env} {s : State} {m : MethodId} {below : List Frame} {meth : Method} {c : Code} (Sx : CallFix p m c b_C_firstBarrierOut 5 s ([.ref (a 0), .int who, .int tp] : List Value).toArray BW R_C) (hr : meth.sig.returnType = (some .int)) (hlk : meth.locks = false) (hP : va_P D classes (wC a cI cII (nI N) (nI K) A) s.heap) (hK : va_K D classes (tC cI cII) s) : ∀ (k i : Nat), i + k = 30 → ∀ (v3 : Int32) (ls : Array Slot), lv_has ls 5 [(0, .ref (a 0)), (1, .int who), (2, .int tp), (3, .int v3), (4, .int (nI i))] → W p l e ({ frames := 3, cells := 0, slots := 0, locals := 64 } : Room) s m ([.ref (a 0), .int who, .int tp] : List Value).toArray below meth c s.heap [] 0 0 (MQ below (vp_Si (fun r => r = k_firstBarrierOut_5 N K A tp k i v3)) ([.ref (a 0), .int who, .int tp] : List Value).toArray s 0 0 (fun _ => False)) (F0 m 5 ls []) := by
  obtain ⟨hx, hb, hml, hown, hts⟩ := id Sx
  intro k
  induction k with
  | zero =>
    intro i hi v3 ls hl
    refine lv_iload hx hb d_C_firstBarrierOut_5 (lv_at hl 4 rfl) ?_
    refine lv_bipush (v := (30 : Int32)) hx hb d_C_firstBarrierOut_7 (by decide) ?_
    refine lv_icmp_ge (tgt := 44) hx hb d_C_firstBarrierOut_9 (by decide) (fun c_9 => ?_) (fun c_9 => absurd (nI_le (a := 30) (b := i) (by omega) (by omega)) c_9)
    refine lv_iconst (v := (-1 : Int32)) hx hb d_C_firstBarrierOut_44 (by decide) ?_
    exact roRet hx hb hr rfl hlk (show (-1 : Int32) = k_firstBarrierOut_5 N K A tp 0 i v3 from by rw [k_firstBarrierOut_5_0]) d_C_firstBarrierOut_45
  | succ k ih =>
    intro i hi v3 ls hl
    refine lv_iload hx hb d_C_firstBarrierOut_5 (lv_at hl 4 rfl) ?_
    refine lv_bipush (v := (30 : Int32)) hx hb d_C_firstBarrierOut_7 (by decide) ?_
    refine lv_icmp_ge (tgt := 44) hx hb d_C_firstBarrierOut_9 (by decide) (fun c_9 => absurd c_9 (nI_ge (a := i) (b := 30) (by omega) (by omega))) (fun c_9 => ?_)
    refine lv_iload_n hx hb d_C_firstBarrierOut_12 rfl (lv_at hl 3 rfl) ?_
    refine lv_iload_n hx hb d_C_firstBarrierOut_13 rfl (lv_at hl 2 rfl) ?_
    refine lv_icmp_eq (tgt := 44) hx hb d_C_firstBarrierOut_14 (by decide) (fun c_14 => ?_) (fun c_14 => ?_)
    · refine lv_iconst (v := (-1 : Int32)) hx hb d_C_firstBarrierOut_44 (by decide) ?_
      exact roRet hx hb hr rfl hlk (show (-1 : Int32) = k_firstBarrierOut_5 N K A tp (k + 1) i v3 from by rw [k_firstBarrierOut_5_S, if_pos c_14]) d_C_firstBarrierOut_45
    · refine lv_iload_n hx hb d_C_firstBarrierOut_17 rfl (lv_at hl 3 rfl) ?_
      refine lv_iconst (v := (-1 : Int32)) hx hb d_C_firstBarrierOut_18 (by decide) ?_
      refine lv_icmp_eq (tgt := 44) hx hb d_C_firstBarrierOut_19 (by decide) (fun c_19 => ?_) (fun c_19 => ?_)
      · refine lv_iconst (v := (-1 : Int32)) hx hb d_C_firstBarrierOut_44 (by decide) ?_
        exact roRet hx hb hr rfl hlk (show (-1 : Int32) = k_firstBarrierOut_5 N K A tp (k + 1) i v3 from by rw [k_firstBarrierOut_5_S, if_neg c_14, if_pos c_19]) d_C_firstBarrierOut_45
      · refine lv_aload_n hx hb d_C_firstBarrierOut_22 rfl (lv_at hl 0 rfl) ?_
        refine lv_iload_n hx hb d_C_firstBarrierOut_23 rfl (lv_at hl 3 rfl) ?_
        refine xro (As := [.int v3]) (rest := []) Sx (ck_isShutBox l D a cI cII N K A hN hKK v3) v_C_isShutBox ⟨rfl, rfl, Nat.le_of_ble_eq_true rfl, Nat.le_of_ble_eq_true rfl⟩ hK hP (ci := 0) (q0 := 0) rfl rfl rfl hl.1 rfl (Nat.le_of_ble_eq_true rfl) d_C_firstBarrierOut_24 ⟨Nat.le_of_ble_eq_true rfl, Nat.le_of_ble_eq_true rfl⟩ (fun r hq => ?_)
        subst hq
        refine lv_if_eq (tgt := 32) hx hb d_C_firstBarrierOut_27 (by decide) (fun c_27 => ?_) (fun c_27 => ?_)
        · refine lv_aload_n hx hb d_C_firstBarrierOut_32 rfl (lv_at hl 0 rfl) ?_
          refine lv_iload_n hx hb d_C_firstBarrierOut_33 rfl (lv_at hl 3 rfl) ?_
          refine xro (As := [.int v3]) (rest := []) Sx (ck_holderOf l D a cI cII N K A hN hKK v3) v_C_holderOf ⟨rfl, rfl, Nat.le_of_ble_eq_true rfl, Nat.le_of_ble_eq_true rfl⟩ hK hP (ci := 0) (q0 := 0) rfl rfl rfl hl.1 rfl (Nat.le_of_ble_eq_true rfl) d_C_firstBarrierOut_34 ⟨Nat.le_of_ble_eq_true rfl, Nat.le_of_ble_eq_true rfl⟩ (fun r hq => ?_)
          subst hq
          refine lv_istore_n (lv' := [(3, .int (k_holderOf N K A v3)), (0, .ref (a 0)), (1, .int who), (2, .int tp), (4, .int (nI i))]) hx hb d_C_firstBarrierOut_37 rfl hl (by decide) rfl (fun ls hl => ?_)
          refine lv_iinc (v := nI (i + 1)) (lv' := [(4, .int (nI (i + 1))), (3, .int (k_holderOf N K A v3)), (0, .ref (a 0)), (1, .int who), (2, .int tp)]) hx hb d_C_firstBarrierOut_38 hl (k := 4) rfl (nI_1 i) (by decide) rfl (fun ls hl => ?_)
          refine lv_goto (tgt := 5) hx hb d_C_firstBarrierOut_41 (by decide) ?_
          have e_b : k_firstBarrierOut_5 N K A tp (k + 1) i v3 = k_firstBarrierOut_5 N K A tp k (i + 1) (k_holderOf N K A v3) := by rw [k_firstBarrierOut_5_S, if_neg c_14, if_neg c_19, if_pos c_27]
          rw [e_b]
          exact ih (i + 1) (by omega) (k_holderOf N K A v3) ls (lv_sub hl [2, 3, 4, 1, 0] rfl)
        · refine lv_iload_n hx hb d_C_firstBarrierOut_30 rfl (lv_at hl 3 rfl) ?_
          exact roRet hx hb hr rfl hlk (show v3 = k_firstBarrierOut_5 N K A tp (k + 1) i v3 from by rw [k_firstBarrierOut_5_S, if_neg c_14, if_neg c_19, if_neg c_27]) d_C_firstBarrierOut_31
def k_firstBarrierOut (N K : Nat) (A : Nat → Nat → Int32) (who tp : Int32) : Int32 := k_firstBarrierOut_5 N K A tp 30 0 who
set_option maxHeartbeats 4000000 in
set_option maxRecDepth 100000 in
theorem ck_firstBarrierOut (l : Launch) (D : va_G) (a : Nat → Nat) (cI cII : ClassId) (N K : Nat) (A : Nat → Nat → Int32) (hN : N ≤ 30) (hKK : K ≤ 10) (who tp : Int32) : Met l y_C_firstBarrierOut (Cond.code y_C_firstBarrierOut b_C_firstBarrierOut 5 (some .int) :: BW) ({ frames := 3, cells := 0, slots := 0, locals := 64 } : Room) (PcR D (wC a cI cII (nI N) (nI K) A) (tC cI cII) [.ref (a 0), .int who, .int tp]) (vp_Si (fun r => r = k_firstBarrierOut N K A who tp)) 0 0 (fun _ => False) := by
  refine roStart (by decide) rfl (Nat.le_of_ble_eq_true rfl) (fun p e s m below meth c Sx hr hlk hP hK ls hl => ?_)
  obtain ⟨hx, hb, hml, hown, hts⟩ := id Sx
  have hl : lv_has ls 5 [(0, .ref (a 0)), (1, .int who), (2, .int tp)] := hl
  refine lv_iload_n hx hb d_C_firstBarrierOut_0 rfl (lv_at hl 1 rfl) ?_
  refine lv_istore_n (lv' := [(3, .int who), (0, .ref (a 0)), (1, .int who), (2, .int tp)]) hx hb d_C_firstBarrierOut_1 rfl hl (by decide) rfl (fun ls hl => ?_)
  refine lv_iconst (v := (0 : Int32)) hx hb d_C_firstBarrierOut_2 (by decide) ?_
  refine lv_istore (lv' := [(4, .int (0 : Int32)), (3, .int who), (0, .ref (a 0)), (1, .int who), (2, .int tp)]) hx hb d_C_firstBarrierOut_3 hl (by decide) rfl (fun ls hl => ?_)
  have e_5 : k_firstBarrierOut N K A who tp = k_firstBarrierOut_5 N K A tp 30 0 who := by rw [k_firstBarrierOut]
  rw [e_5]
  exact wk_firstBarrierOut_5 l D a cI cII N K A hN hKK who tp Sx hr hlk hP hK 30 0 (by omega) who ls (lv_sub hl [2, 3, 4, 1, 0] rfl)

def k_firstBarrierIn_19 (N K : Nat) (A : Nat → Nat → Int32) (tp : Int32) : Nat → Nat → Int32 → Int32 → Int32
  | 0, i, v3, v4 => v3
  | k + 1, i, v3, v4 => (if v4 = tp then v3 else (if v4 = (-1 : Int32) then v3 else (if (k_isShutBox N K A v4) = (0 : Int32) then (if (k_isPerson N K A v4) = (0 : Int32) then k_firstBarrierIn_19 N K A tp k (i + 1) v3 (k_holderOf N K A v4) else k_firstBarrierIn_19 N K A tp k (i + 1) v4 (k_holderOf N K A v4)) else k_firstBarrierIn_19 N K A tp k (i + 1) v4 (k_holderOf N K A v4))))
theorem k_firstBarrierIn_19_0 (N K : Nat) (A : Nat → Nat → Int32) (tp : Int32) (i : Nat) (v3 v4 : Int32) : k_firstBarrierIn_19 N K A tp 0 i v3 v4 = v3 := rfl
theorem k_firstBarrierIn_19_S (N K : Nat) (A : Nat → Nat → Int32) (tp : Int32) (k i : Nat) (v3 v4 : Int32) : k_firstBarrierIn_19 N K A tp (k + 1) i v3 v4 = (if v4 = tp then v3 else (if v4 = (-1 : Int32) then v3 else (if (k_isShutBox N K A v4) = (0 : Int32) then (if (k_isPerson N K A v4) = (0 : Int32) then k_firstBarrierIn_19 N K A tp k (i + 1) v3 (k_holderOf N K A v4) else k_firstBarrierIn_19 N K A tp k (i + 1) v4 (k_holderOf N K A v4)) else k_firstBarrierIn_19 N K A tp k (i + 1) v4 (k_holderOf N K A v4)))) := rfl
set_option maxHeartbeats 4000000 in
set_option maxRecDepth 100000 in
theorem wk_firstBarrierIn_19 (l : Launch) (D : va_G) (a : Nat → Nat) (cI cII : ClassId) (N K : Nat) (A : Nat → Nat → Int32) (hN : N ≤ 30) (hKK : K ≤ 10) (tp x : Int32) {p : Program} {e : Env} {s : State} {m : MethodId} {below : List Frame} {meth : Method} {c : Code} (Sx : CallFix p m c b_C_firstBarrierIn 6 s ([.ref (a 0), .int tp, .int x] : List Value).toArray BW R_C) (hr : meth.sig.returnType = (some .int)) (hlk : meth.locks = false) (hP : va_P D classes (wC a cI cII (nI N) (nI K) A) s.heap) (hK : va_K D classes (tC cI cII) s) : ∀ (k i : Nat), i + k = 30 → ∀ (v3 v4 : Int32) (ls : Array Slot), lv_has ls 6 [(0, .ref (a 0)), (1, .int tp), (2, .int x), (3, .int v3), (4, .int v4), (5, .int (nI i))] → W p l e ({ frames := 3, cells := 0, slots := 0, locals := 64 } : Room) s m ([.ref (a 0), .int tp, .int x] : List Value).toArray below meth c s.heap [] 0 0 (MQ below (vp_Si (fun r => r = k_firstBarrierIn_19 N K A tp k i v3 v4)) ([.ref (a 0), .int tp, .int x] : List Value).toArray s 0 0 (fun _ => False)) (F0 m 19 ls []) := by
  obtain ⟨hx, hb, hml, hown, hts⟩ := id Sx
  intro k
  induction k with
  | zero =>
    intro i hi v3 v4 ls hl
    refine lv_iload hx hb d_C_firstBarrierIn_19 (lv_at hl 5 rfl) ?_
    refine lv_bipush (v := (30 : Int32)) hx hb d_C_firstBarrierIn_21 (by decide) ?_
    refine lv_icmp_ge (tgt := 73) hx hb d_C_firstBarrierIn_23 (by decide) (fun c_23 => ?_) (fun c_23 => absurd (nI_le (a := 30) (b := i) (by omega) (by omega)) c_23)
    refine lv_iload_n hx hb d_C_firstBarrierIn_73 rfl (lv_at hl 3 rfl) ?_
    exact roRet hx hb hr rfl hlk (show v3 = k_firstBarrierIn_19 N K A tp 0 i v3 v4 from by rw [k_firstBarrierIn_19_0]) d_C_firstBarrierIn_74
  | succ k ih =>
    intro i hi v3 v4 ls hl
    refine lv_iload hx hb d_C_firstBarrierIn_19 (lv_at hl 5 rfl) ?_
    refine lv_bipush (v := (30 : Int32)) hx hb d_C_firstBarrierIn_21 (by decide) ?_
    refine lv_icmp_ge (tgt := 73) hx hb d_C_firstBarrierIn_23 (by decide) (fun c_23 => absurd c_23 (nI_ge (a := i) (b := 30) (by omega) (by omega))) (fun c_23 => ?_)
    refine lv_iload hx hb d_C_firstBarrierIn_26 (lv_at hl 4 rfl) ?_
    refine lv_iload_n hx hb d_C_firstBarrierIn_28 rfl (lv_at hl 1 rfl) ?_
    refine lv_icmp_eq (tgt := 73) hx hb d_C_firstBarrierIn_29 (by decide) (fun c_29 => ?_) (fun c_29 => ?_)
    · refine lv_iload_n hx hb d_C_firstBarrierIn_73 rfl (lv_at hl 3 rfl) ?_
      exact roRet hx hb hr rfl hlk (show v3 = k_firstBarrierIn_19 N K A tp (k + 1) i v3 v4 from by rw [k_firstBarrierIn_19_S, if_pos c_29]) d_C_firstBarrierIn_74
    · refine lv_iload hx hb d_C_firstBarrierIn_32 (lv_at hl 4 rfl) ?_
      refine lv_iconst (v := (-1 : Int32)) hx hb d_C_firstBarrierIn_34 (by decide) ?_
      refine lv_icmp_eq (tgt := 73) hx hb d_C_firstBarrierIn_35 (by decide) (fun c_35 => ?_) (fun c_35 => ?_)
      · refine lv_iload_n hx hb d_C_firstBarrierIn_73 rfl (lv_at hl 3 rfl) ?_
        exact roRet hx hb hr rfl hlk (show v3 = k_firstBarrierIn_19 N K A tp (k + 1) i v3 v4 from by rw [k_firstBarrierIn_19_S, if_neg c_29, if_pos c_35]) d_C_firstBarrierIn_74
      · refine lv_aload_n hx hb d_C_firstBarrierIn_38 rfl (lv_at hl 0 rfl) ?_
        refine lv_iload hx hb d_C_firstBarrierIn_39 (lv_at hl 4 rfl) ?_
        refine xro (As := [.int v4]) (rest := []) Sx (ck_isShutBox l D a cI cII N K A hN hKK v4) v_C_isShutBox ⟨rfl, rfl, Nat.le_of_ble_eq_true rfl, Nat.le_of_ble_eq_true rfl⟩ hK hP (ci := 0) (q0 := 0) rfl rfl rfl hl.1 rfl (Nat.le_of_ble_eq_true rfl) d_C_firstBarrierIn_41 ⟨Nat.le_of_ble_eq_true rfl, Nat.le_of_ble_eq_true rfl⟩ (fun r hq => ?_)
        subst hq
        refine lv_if_ne (tgt := 56) hx hb d_C_firstBarrierIn_44 (by decide) (fun c_44 => ?_) (fun c_44 => ?_)
        · refine lv_iload hx hb d_C_firstBarrierIn_56 (lv_at hl 4 rfl) ?_
          refine lv_istore_n (lv' := [(3, .int v4), (0, .ref (a 0)), (1, .int tp), (2, .int x), (4, .int v4), (5, .int (nI i))]) hx hb d_C_firstBarrierIn_58 rfl hl (by decide) rfl (fun ls hl => ?_)
          refine lv_aload_n hx hb d_C_firstBarrierIn_59 rfl (lv_at hl 1 rfl) ?_
          refine lv_iload hx hb d_C_firstBarrierIn_60 (lv_at hl 4 rfl) ?_
          refine xro (As := [.int v4]) (rest := []) Sx (ck_holderOf l D a cI cII N K A hN hKK v4) v_C_holderOf ⟨rfl, rfl, Nat.le_of_ble_eq_true rfl, Nat.le_of_ble_eq_true rfl⟩ hK hP (ci := 0) (q0 := 0) rfl rfl rfl hl.1 rfl (Nat.le_of_ble_eq_true rfl) d_C_firstBarrierIn_62 ⟨Nat.le_of_ble_eq_true rfl, Nat.le_of_ble_eq_true rfl⟩ (fun r hq => ?_)
          subst hq
          refine lv_istore (lv' := [(4, .int (k_holderOf N K A v4)), (3, .int v4), (0, .ref (a 0)), (1, .int tp), (2, .int x), (5, .int (nI i))]) hx hb d_C_firstBarrierIn_65 hl (by decide) rfl (fun ls hl => ?_)
          refine lv_iinc (v := nI (i + 1)) (lv' := [(5, .int (nI (i + 1))), (4, .int (k_holderOf N K A v4)), (3, .int v4), (0, .ref (a 0)), (1, .int tp), (2, .int x)]) hx hb d_C_firstBarrierIn_67 hl (k := 5) rfl (nI_1 i) (by decide) rfl (fun ls hl => ?_)
          refine lv_goto (tgt := 19) hx hb d_C_firstBarrierIn_70 (by decide) ?_
          have e_b : k_firstBarrierIn_19 N K A tp (k + 1) i v3 v4 = k_firstBarrierIn_19 N K A tp k (i + 1) v4 (k_holderOf N K A v4) := by rw [k_firstBarrierIn_19_S, if_neg c_29, if_neg c_35, if_neg c_44]
          rw [e_b]
          exact ih (i + 1) (by omega) v4 (k_holderOf N K A v4) ls (lv_sub hl [3, 4, 5, 2, 1, 0] rfl)
        · refine lv_aload_n hx hb d_C_firstBarrierIn_47 rfl (lv_at hl 0 rfl) ?_
          refine lv_iload hx hb d_C_firstBarrierIn_48 (lv_at hl 4 rfl) ?_
          refine xro (As := [.int v4]) (rest := []) Sx (ck_isPerson l D a cI cII N K A hN hKK v4) v_C_isPerson ⟨rfl, rfl, Nat.le_of_ble_eq_true rfl, Nat.le_of_ble_eq_true rfl⟩ hK hP (ci := 0) (q0 := 0) rfl rfl rfl hl.1 rfl (Nat.le_of_ble_eq_true rfl) d_C_firstBarrierIn_50 ⟨Nat.le_of_ble_eq_true rfl, Nat.le_of_ble_eq_true rfl⟩ (fun r hq => ?_)
          subst hq
          refine lv_if_eq (tgt := 59) hx hb d_C_firstBarrierIn_53 (by decide) (fun c_53 => ?_) (fun c_53 => ?_)
          · refine lv_aload_n hx hb d_C_firstBarrierIn_59 rfl (lv_at hl 0 rfl) ?_
            refine lv_iload hx hb d_C_firstBarrierIn_60 (lv_at hl 4 rfl) ?_
            refine xro (As := [.int v4]) (rest := []) Sx (ck_holderOf l D a cI cII N K A hN hKK v4) v_C_holderOf ⟨rfl, rfl, Nat.le_of_ble_eq_true rfl, Nat.le_of_ble_eq_true rfl⟩ hK hP (ci := 0) (q0 := 0) rfl rfl rfl hl.1 rfl (Nat.le_of_ble_eq_true rfl) d_C_firstBarrierIn_62 ⟨Nat.le_of_ble_eq_true rfl, Nat.le_of_ble_eq_true rfl⟩ (fun r hq => ?_)
            subst hq
            refine lv_istore (lv' := [(4, .int (k_holderOf N K A v4)), (0, .ref (a 0)), (1, .int tp), (2, .int x), (3, .int v3), (5, .int (nI i))]) hx hb d_C_firstBarrierIn_65 hl (by decide) rfl (fun ls hl => ?_)
            refine lv_iinc (v := nI (i + 1)) (lv' := [(5, .int (nI (i + 1))), (4, .int (k_holderOf N K A v4)), (0, .ref (a 0)), (1, .int tp), (2, .int x), (3, .int v3)]) hx hb d_C_firstBarrierIn_67 hl (k := 5) rfl (nI_1 i) (by decide) rfl (fun ls hl => ?_)
            refine lv_goto (tgt := 19) hx hb d_C_firstBarrierIn_70 (by decide) ?_
            have e_b : k_firstBarrierIn_19 N K A tp (k + 1) i v3 v4 = k_firstBarrierIn_19 N K A tp k (i + 1) v3 (k_holderOf N K A v4) := by rw [k_firstBarrierIn_19_S, if_neg c_29, if_neg c_35, if_pos c_44, if_pos c_53]
            rw [e_b]
            exact ih (i + 1) (by omega) v3 (k_holderOf N K A v4) ls (lv_sub hl [2, 3, 4, 5, 1, 0] rfl)
          · refine lv_iload hx hb d_C_firstBarrierIn_56 (lv_at hl 4 rfl) ?_
            refine lv_istore_n (lv' := [(3, .int v4), (0, .ref (a 0)), (1, .int tp), (2, .int x), (4, .int v4), (5, .int (nI i))]) hx hb d_C_firstBarrierIn_58 rfl hl (by decide) rfl (fun ls hl => ?_)
            refine lv_aload_n hx hb d_C_firstBarrierIn_59 rfl (lv_at hl 1 rfl) ?_
            refine lv_iload hx hb d_C_firstBarrierIn_60 (lv_at hl 4 rfl) ?_
            refine xro (As := [.int v4]) (rest := []) Sx (ck_holderOf l D a cI cII N K A hN hKK v4) v_C_holderOf ⟨rfl, rfl, Nat.le_of_ble_eq_true rfl, Nat.le_of_ble_eq_true rfl⟩ hK hP (ci := 0) (q0 := 0) rfl rfl rfl hl.1 rfl (Nat.le_of_ble_eq_true rfl) d_C_firstBarrierIn_62 ⟨Nat.le_of_ble_eq_true rfl, Nat.le_of_ble_eq_true rfl⟩ (fun r hq => ?_)
            subst hq
            refine lv_istore (lv' := [(4, .int (k_holderOf N K A v4)), (3, .int v4), (0, .ref (a 0)), (1, .int tp), (2, .int x), (5, .int (nI i))]) hx hb d_C_firstBarrierIn_65 hl (by decide) rfl (fun ls hl => ?_)
            refine lv_iinc (v := nI (i + 1)) (lv' := [(5, .int (nI (i + 1))), (4, .int (k_holderOf N K A v4)), (3, .int v4), (0, .ref (a 0)), (1, .int tp), (2, .int x)]) hx hb d_C_firstBarrierIn_67 hl (k := 5) rfl (nI_1 i) (by decide) rfl (fun ls hl => ?_)
            refine lv_goto (tgt := 19) hx hb d_C_firstBarrierIn_70 (by decide) ?_
            have e_b : k_firstBarrierIn_19 N K A tp (k + 1) i v3 v4 = k_firstBarrierIn_19 N K A tp k (i + 1) v4 (k_holderOf N K A v4) := by rw [k_firstBarrierIn_19_S, if_neg c_29, if_neg c_35, if_pos c_44, if_neg c_53]
            rw [e_b]
            exact ih (i + 1) (by omega) v4 (k_holderOf N K A v4) ls (lv_sub hl [3, 4, 5, 2, 1, 0] rfl)
def k_firstBarrierIn (N K : Nat) (A : Nat → Nat → Int32) (tp x : Int32) : Int32 := (if tp = x then (-1 : Int32) else k_firstBarrierIn_19 N K A tp 30 0 (-1 : Int32) (k_holderOf N K A x))
set_option maxHeartbeats 4000000 in
set_option maxRecDepth 100000 in
theorem ck_firstBarrierIn (l : Launch) (D : va_G) (a : Nat → Nat) (cI cII : ClassId) (N K : Nat) (A : Nat → Nat → Int32) (hN : N ≤ 30) (hKK : K ≤ 10) (tp x : Int32) : Met l y_C_firstBarrierIn (Cond.code y_C_firstBarrierIn b_C_firstBarrierIn 6 (some .int) :: BW) ({ frames := 3, cells := 0, slots := 0, locals := 64 } : Room) (PcR D (wC a cI cII (nI N) (nI K) A) (tC cI cII) [.ref (a 0), .int tp, .int x]) (vp_Si (fun r => r = k_firstBarrierIn N K A tp x)) 0 0 (fun _ => False) := by
  refine roStart (by decide) rfl (Nat.le_of_ble_eq_true rfl) (fun p e s m below meth c Sx hr hlk hP hK ls hl => ?_)
  obtain ⟨hx, hb, hml, hown, hts⟩ := id Sx
  have hl : lv_has ls 6 [(0, .ref (a 0)), (1, .int tp), (2, .int x)] := hl
  refine lv_iload_n hx hb d_C_firstBarrierIn_0 rfl (lv_at hl 1 rfl) ?_
  refine lv_iload_n hx hb d_C_firstBarrierIn_1 rfl (lv_at hl 2 rfl) ?_
  refine lv_icmp_ne (tgt := 7) hx hb d_C_firstBarrierIn_2 (by decide) (fun c_2 => ?_) (fun c_2 => ?_)
  · refine lv_iconst (v := (-1 : Int32)) hx hb d_C_firstBarrierIn_7 (by decide) ?_
    refine lv_istore_n (lv' := [(3, .int (-1 : Int32)), (0, .ref (a 0)), (1, .int tp), (2, .int x)]) hx hb d_C_firstBarrierIn_8 rfl hl (by decide) rfl (fun ls hl => ?_)
    refine lv_aload_n hx hb d_C_firstBarrierIn_9 rfl (lv_at hl 1 rfl) ?_
    refine lv_iload_n hx hb d_C_firstBarrierIn_10 rfl (lv_at hl 3 rfl) ?_
    refine xro (As := [.int x]) (rest := []) Sx (ck_holderOf l D a cI cII N K A hN hKK x) v_C_holderOf ⟨rfl, rfl, Nat.le_of_ble_eq_true rfl, Nat.le_of_ble_eq_true rfl⟩ hK hP (ci := 0) (q0 := 0) rfl rfl rfl hl.1 rfl (Nat.le_of_ble_eq_true rfl) d_C_firstBarrierIn_11 ⟨Nat.le_of_ble_eq_true rfl, Nat.le_of_ble_eq_true rfl⟩ (fun r hq => ?_)
    subst hq
    refine lv_istore (lv' := [(4, .int (k_holderOf N K A x)), (3, .int (-1 : Int32)), (0, .ref (a 0)), (1, .int tp), (2, .int x)]) hx hb d_C_firstBarrierIn_14 hl (by decide) rfl (fun ls hl => ?_)
    refine lv_iconst (v := (0 : Int32)) hx hb d_C_firstBarrierIn_16 (by decide) ?_
    refine lv_istore (lv' := [(5, .int (0 : Int32)), (4, .int (k_holderOf N K A x)), (3, .int (-1 : Int32)), (0, .ref (a 0)), (1, .int tp), (2, .int x)]) hx hb d_C_firstBarrierIn_17 hl (by decide) rfl (fun ls hl => ?_)
    have e_19 : k_firstBarrierIn N K A tp x = k_firstBarrierIn_19 N K A tp 30 0 (-1 : Int32) (k_holderOf N K A x) := by rw [k_firstBarrierIn, if_neg c_2]
    rw [e_19]
    exact wk_firstBarrierIn_19 l D a cI cII N K A hN hKK tp x Sx hr hlk hP hK 30 0 (by omega) (-1 : Int32) (k_holderOf N K A x) ls (lv_sub hl [3, 4, 5, 2, 1, 0] rfl)
  · refine lv_iconst (v := (-1 : Int32)) hx hb d_C_firstBarrierIn_5 (by decide) ?_
    exact roRet hx hb hr rfl hlk (show (-1 : Int32) = k_firstBarrierIn N K A tp x from by rw [k_firstBarrierIn, if_pos c_2]) d_C_firstBarrierIn_6

def k_firstBarrier (N K : Nat) (A : Nat → Nat → Int32) (who x : Int32) : Int32 := (if (k_turningPoint N K A who x) = (-1 : Int32) then (-5 : Int32) else (if (k_firstBarrierOut N K A who (k_turningPoint N K A who x)) = (-1 : Int32) then k_firstBarrierIn N K A (k_turningPoint N K A who x) x else k_firstBarrierOut N K A who (k_turningPoint N K A who x)))
set_option maxHeartbeats 4000000 in
set_option maxRecDepth 100000 in
theorem ck_firstBarrier (l : Launch) (D : va_G) (a : Nat → Nat) (cI cII : ClassId) (N K : Nat) (A : Nat → Nat → Int32) (hN : N ≤ 30) (hKK : K ≤ 10) (who x : Int32) : Met l y_C_firstBarrier (Cond.code y_C_firstBarrier b_C_firstBarrier 5 (some .int) :: BW) ({ frames := 4, cells := 0, slots := 0, locals := 90 } : Room) (PcR D (wC a cI cII (nI N) (nI K) A) (tC cI cII) [.ref (a 0), .int who, .int x]) (vp_Si (fun r => r = k_firstBarrier N K A who x)) 0 0 (fun _ => False) := by
  refine roStart (by decide) rfl (Nat.le_of_ble_eq_true rfl) (fun p e s m below meth c Sx hr hlk hP hK ls hl => ?_)
  obtain ⟨hx, hb, hml, hown, hts⟩ := id Sx
  have hl : lv_has ls 5 [(0, .ref (a 0)), (1, .int who), (2, .int x)] := hl
  refine lv_aload_n hx hb d_C_firstBarrier_0 rfl (lv_at hl 0 rfl) ?_
  refine lv_iload_n hx hb d_C_firstBarrier_1 rfl (lv_at hl 1 rfl) ?_
  refine lv_iload_n hx hb d_C_firstBarrier_2 rfl (lv_at hl 2 rfl) ?_
  refine xro (As := [.int who, .int x]) (rest := []) Sx (ck_turningPoint l D a cI cII N K A hN hKK who x) v_C_turningPoint ⟨rfl, rfl, Nat.le_of_ble_eq_true rfl, Nat.le_of_ble_eq_true rfl⟩ hK hP (ci := 0) (q0 := 0) rfl rfl rfl hl.1 rfl (Nat.le_of_ble_eq_true rfl) d_C_firstBarrier_3 ⟨Nat.le_of_ble_eq_true rfl, Nat.le_of_ble_eq_true rfl⟩ (fun r hq => ?_)
  subst hq
  refine lv_istore_n (lv' := [(3, .int (k_turningPoint N K A who x)), (0, .ref (a 0)), (1, .int who), (2, .int x)]) hx hb d_C_firstBarrier_6 rfl hl (by decide) rfl (fun ls hl => ?_)
  refine lv_iload_n hx hb d_C_firstBarrier_7 rfl (lv_at hl 0 rfl) ?_
  refine lv_iconst (v := (-1 : Int32)) hx hb d_C_firstBarrier_8 (by decide) ?_
  refine lv_icmp_ne (tgt := 15) hx hb d_C_firstBarrier_9 (by decide) (fun c_9 => ?_) (fun c_9 => ?_)
  · refine lv_aload_n hx hb d_C_firstBarrier_15 rfl (lv_at hl 1 rfl) ?_
    refine lv_iload_n hx hb d_C_firstBarrier_16 rfl (lv_at hl 2 rfl) ?_
    refine lv_iload_n hx hb d_C_firstBarrier_17 rfl (lv_at hl 0 rfl) ?_
    refine xro (As := [.int who, .int (k_turningPoint N K A who x)]) (rest := []) Sx (ck_firstBarrierOut l D a cI cII N K A hN hKK who (k_turningPoint N K A who x)) v_C_firstBarrierOut ⟨rfl, rfl, Nat.le_of_ble_eq_true rfl, Nat.le_of_ble_eq_true rfl⟩ hK hP (ci := 0) (q0 := 0) rfl rfl rfl hl.1 rfl (Nat.le_of_ble_eq_true rfl) d_C_firstBarrier_18 ⟨Nat.le_of_ble_eq_true rfl, Nat.le_of_ble_eq_true rfl⟩ (fun r hq => ?_)
    subst hq
    refine lv_istore (lv' := [(4, .int (k_firstBarrierOut N K A who (k_turningPoint N K A who x))), (3, .int (k_turningPoint N K A who x)), (0, .ref (a 0)), (1, .int who), (2, .int x)]) hx hb d_C_firstBarrier_21 hl (by decide) rfl (fun ls hl => ?_)
    refine lv_iload hx hb d_C_firstBarrier_23 (lv_at hl 0 rfl) ?_
    refine lv_iconst (v := (-1 : Int32)) hx hb d_C_firstBarrier_25 (by decide) ?_
    refine lv_icmp_eq (tgt := 34) hx hb d_C_firstBarrier_26 (by decide) (fun c_26 => ?_) (fun c_26 => ?_)
    · refine lv_aload_n hx hb d_C_firstBarrier_34 rfl (lv_at hl 2 rfl) ?_
      refine lv_iload_n hx hb d_C_firstBarrier_35 rfl (lv_at hl 1 rfl) ?_
      refine lv_iload_n hx hb d_C_firstBarrier_36 rfl (lv_at hl 4 rfl) ?_
      refine xro (As := [.int (k_turningPoint N K A who x), .int x]) (rest := []) Sx (ck_firstBarrierIn l D a cI cII N K A hN hKK (k_turningPoint N K A who x) x) v_C_firstBarrierIn ⟨rfl, rfl, Nat.le_of_ble_eq_true rfl, Nat.le_of_ble_eq_true rfl⟩ hK hP (ci := 0) (q0 := 0) rfl rfl rfl hl.1 rfl (Nat.le_of_ble_eq_true rfl) d_C_firstBarrier_37 ⟨Nat.le_of_ble_eq_true rfl, Nat.le_of_ble_eq_true rfl⟩ (fun r hq => ?_)
      subst hq
      exact roRet hx hb hr rfl hlk (show k_firstBarrierIn N K A (k_turningPoint N K A who x) x = k_firstBarrier N K A who x from by rw [k_firstBarrier, if_neg c_9, if_pos c_26]) d_C_firstBarrier_40
    · refine lv_iload hx hb d_C_firstBarrier_29 (lv_at hl 0 rfl) ?_
      refine lv_goto (tgt := 40) hx hb d_C_firstBarrier_31 (by decide) ?_
      exact roRet hx hb hr rfl hlk (show k_firstBarrierOut N K A who (k_turningPoint N K A who x) = k_firstBarrier N K A who x from by rw [k_firstBarrier, if_neg c_9, if_neg c_26]) d_C_firstBarrier_40
  · refine lv_bipush (v := (-5 : Int32)) hx hb d_C_firstBarrier_12 (by decide) ?_
    exact roRet hx hb hr rfl hlk (show (-5 : Int32) = k_firstBarrier N K A who x from by rw [k_firstBarrier, if_pos c_9]) d_C_firstBarrier_14

def k_wallLoss (N K : Nat) (A : Nat → Nat → Int32) (x mk : Int32) : Int32 := (if (k_sortOf N K A x) = (1 : Int32) then (if (k_markOf N K A x (0 : Int32)) = (1 : Int32) then (0 : Int32) else (if mk = (3 : Int32) then (2 : Int32) else (if (k_markOf N K A x (1 : Int32)) = (1 : Int32) then (1 : Int32) else (-1 : Int32)))) else (-1 : Int32))
set_option maxHeartbeats 4000000 in
set_option maxRecDepth 100000 in
theorem ck_wallLoss (l : Launch) (D : va_G) (a : Nat → Nat) (cI cII : ClassId) (N K : Nat) (A : Nat → Nat → Int32) (hN : N ≤ 30) (hKK : K ≤ 10) (x mk : Int32) : Met l y_C_wallLoss (Cond.code y_C_wallLoss b_C_wallLoss 3 (some .int) :: BW) ({ frames := 2, cells := 0, slots := 0, locals := 43 } : Room) (PcR D (wC a cI cII (nI N) (nI K) A) (tC cI cII) [.ref (a 0), .int x, .int mk]) (vp_Si (fun r => r = k_wallLoss N K A x mk)) 0 0 (fun _ => False) := by
  refine roStart (by decide) rfl (Nat.le_of_ble_eq_true rfl) (fun p e s m below meth c Sx hr hlk hP hK ls hl => ?_)
  obtain ⟨hx, hb, hml, hown, hts⟩ := id Sx
  have hl : lv_has ls 3 [(0, .ref (a 0)), (1, .int x), (2, .int mk)] := hl
  refine lv_aload_n hx hb d_C_wallLoss_0 rfl (lv_at hl 0 rfl) ?_
  refine lv_iload_n hx hb d_C_wallLoss_1 rfl (lv_at hl 1 rfl) ?_
  refine xro (As := [.int x]) (rest := []) Sx (ck_sortOf l D a cI cII N K A hN hKK x) v_C_sortOf ⟨rfl, rfl, Nat.le_of_ble_eq_true rfl, Nat.le_of_ble_eq_true rfl⟩ hK hP (ci := 0) (q0 := 0) rfl rfl rfl hl.1 rfl (Nat.le_of_ble_eq_true rfl) d_C_wallLoss_2 ⟨Nat.le_of_ble_eq_true rfl, Nat.le_of_ble_eq_true rfl⟩ (fun r hq => ?_)
  subst hq
  refine lv_iconst (v := (1 : Int32)) hx hb d_C_wallLoss_5 (by decide) ?_
  refine lv_icmp_eq (tgt := 11) hx hb d_C_wallLoss_6 (by decide) (fun c_6 => ?_) (fun c_6 => ?_)
  · refine lv_aload_n hx hb d_C_wallLoss_11 rfl (lv_at hl 0 rfl) ?_
    refine lv_iload_n hx hb d_C_wallLoss_12 rfl (lv_at hl 1 rfl) ?_
    refine lv_iconst (v := (0 : Int32)) hx hb d_C_wallLoss_13 (by decide) ?_
    refine xro (As := [.int x, .int (0 : Int32)]) (rest := []) Sx (ck_markOf l D a cI cII N K A hN hKK x (0 : Int32)) v_C_markOf ⟨rfl, rfl, Nat.le_of_ble_eq_true rfl, Nat.le_of_ble_eq_true rfl⟩ hK hP (ci := 0) (q0 := 0) rfl rfl rfl hl.1 rfl (Nat.le_of_ble_eq_true rfl) d_C_wallLoss_14 ⟨Nat.le_of_ble_eq_true rfl, Nat.le_of_ble_eq_true rfl⟩ (fun r hq => ?_)
    subst hq
    refine lv_iconst (v := (1 : Int32)) hx hb d_C_wallLoss_17 (by decide) ?_
    refine lv_icmp_ne (tgt := 23) hx hb d_C_wallLoss_18 (by decide) (fun c_18 => ?_) (fun c_18 => ?_)
    · refine lv_iload_n hx hb d_C_wallLoss_23 rfl (lv_at hl 2 rfl) ?_
      refine lv_iconst (v := (3 : Int32)) hx hb d_C_wallLoss_24 (by decide) ?_
      refine lv_icmp_ne (tgt := 30) hx hb d_C_wallLoss_25 (by decide) (fun c_25 => ?_) (fun c_25 => ?_)
      · refine lv_aload_n hx hb d_C_wallLoss_30 rfl (lv_at hl 0 rfl) ?_
        refine lv_iload_n hx hb d_C_wallLoss_31 rfl (lv_at hl 1 rfl) ?_
        refine lv_iconst (v := (1 : Int32)) hx hb d_C_wallLoss_32 (by decide) ?_
        refine xro (As := [.int x, .int (1 : Int32)]) (rest := []) Sx (ck_markOf l D a cI cII N K A hN hKK x (1 : Int32)) v_C_markOf ⟨rfl, rfl, Nat.le_of_ble_eq_true rfl, Nat.le_of_ble_eq_true rfl⟩ hK hP (ci := 0) (q0 := 0) rfl rfl rfl hl.1 rfl (Nat.le_of_ble_eq_true rfl) d_C_wallLoss_33 ⟨Nat.le_of_ble_eq_true rfl, Nat.le_of_ble_eq_true rfl⟩ (fun r hq => ?_)
        subst hq
        refine lv_iconst (v := (1 : Int32)) hx hb d_C_wallLoss_36 (by decide) ?_
        refine lv_icmp_ne (tgt := 44) hx hb d_C_wallLoss_37 (by decide) (fun c_37 => ?_) (fun c_37 => ?_)
        · refine lv_iconst (v := (-1 : Int32)) hx hb d_C_wallLoss_44 (by decide) ?_
          exact roRet hx hb hr rfl hlk (show (-1 : Int32) = k_wallLoss N K A x mk from by rw [k_wallLoss, if_pos c_6, if_neg c_18, if_neg c_25, if_neg c_37]) d_C_wallLoss_45
        · refine lv_iconst (v := (1 : Int32)) hx hb d_C_wallLoss_40 (by decide) ?_
          refine lv_goto (tgt := 45) hx hb d_C_wallLoss_41 (by decide) ?_
          exact roRet hx hb hr rfl hlk (show (1 : Int32) = k_wallLoss N K A x mk from by rw [k_wallLoss, if_pos c_6, if_neg c_18, if_neg c_25, if_pos c_37]) d_C_wallLoss_45
      · refine lv_iconst (v := (2 : Int32)) hx hb d_C_wallLoss_28 (by decide) ?_
        exact roRet hx hb hr rfl hlk (show (2 : Int32) = k_wallLoss N K A x mk from by rw [k_wallLoss, if_pos c_6, if_neg c_18, if_pos c_25]) d_C_wallLoss_29
    · refine lv_iconst (v := (0 : Int32)) hx hb d_C_wallLoss_21 (by decide) ?_
      exact roRet hx hb hr rfl hlk (show (0 : Int32) = k_wallLoss N K A x mk from by rw [k_wallLoss, if_pos c_6, if_pos c_18]) d_C_wallLoss_22
  · refine lv_iconst (v := (-1 : Int32)) hx hb d_C_wallLoss_9 (by decide) ?_
    exact roRet hx hb hr rfl hlk (show (-1 : Int32) = k_wallLoss N K A x mk from by rw [k_wallLoss, if_neg c_6]) d_C_wallLoss_10

def k_doorLoss (N K : Nat) (A : Nat → Nat → Int32) (dr mk : Int32) : Int32 := (if (k_isDoor N K A dr) = (0 : Int32) then (-1 : Int32) else (if (A (8 + (0 : Int32).toNatClampNeg) dr.toNatClampNeg) = (1 : Int32) then (if mk = (3 : Int32) then (1 : Int32) else (2 : Int32)) else (if mk = (3 : Int32) then (3 : Int32) else (if (A (8 + (1 : Int32).toNatClampNeg) dr.toNatClampNeg) = (1 : Int32) then (3 : Int32) else (-1 : Int32)))))
set_option maxHeartbeats 4000000 in
set_option maxRecDepth 100000 in
theorem ck_doorLoss (l : Launch) (D : va_G) (a : Nat → Nat) (cI cII : ClassId) (N K : Nat) (A : Nat → Nat → Int32) (hN : N ≤ 30) (hKK : K ≤ 10) (dr mk : Int32) : Met l y_C_doorLoss (Cond.code y_C_doorLoss b_C_doorLoss 4 (some .int) :: BW) ({ frames := 1, cells := 0, slots := 0, locals := 21 } : Room) (PcR D (wC a cI cII (nI N) (nI K) A) (tC cI cII) [.ref (a 0), .int dr, .int mk]) (vp_Si (fun r => r = k_doorLoss N K A dr mk)) 0 0 (fun _ => False) := by
  refine roStart (by decide) rfl (Nat.le_of_ble_eq_true rfl) (fun p e s m below meth c Sx hr hlk hP hK ls hl => ?_)
  obtain ⟨hx, hb, hml, hown, hts⟩ := id Sx
  have hl : lv_has ls 4 [(0, .ref (a 0)), (1, .int dr), (2, .int mk)] := hl
  refine lv_aload_n hx hb d_C_doorLoss_0 rfl (lv_at hl 0 rfl) ?_
  refine lv_iload_n hx hb d_C_doorLoss_1 rfl (lv_at hl 1 rfl) ?_
  refine xro (As := [.int dr]) (rest := []) Sx (ck_isDoor l D a cI cII N K A hN hKK dr) v_C_isDoor ⟨rfl, rfl, Nat.le_of_ble_eq_true rfl, Nat.le_of_ble_eq_true rfl⟩ hK hP (ci := 0) (q0 := 0) rfl rfl rfl hl.1 rfl (Nat.le_of_ble_eq_true rfl) d_C_doorLoss_2 ⟨Nat.le_of_ble_eq_true rfl, Nat.le_of_ble_eq_true rfl⟩ (fun r hq => ?_)
  subst hq
  refine lv_if_ne (tgt := 10) hx hb d_C_doorLoss_5 (by decide) (fun c_5 => ?_) (fun c_5 => ?_)
  · refine lv_aload_n hx hb d_C_doorLoss_10 rfl (lv_at hl 0 rfl) ?_
    refine va_get (D := D) (ci := 0) (v := .ref (a 10)) (C := R_C) (T := F_C) (N := 9) hx hb hts i_C hown hK hP 0 rfl rfl 7 (by decide) (hts _ fl_C_34) (fun _ h9 => h9) rfl d_C_doorLoss_11 ?_
    refine lv_iconst (v := (0 : Int32)) hx hb d_C_doorLoss_14 (by decide) ?_
    refine x_ald2 hx hb hK hP (by unfold vp_in; decide) d_C_doorLoss_15 ?_
    refine lv_iload_n hx hb d_C_doorLoss_16 rfl (lv_at hl 1 rfl) ?_
    refine va_iald (n := 10) hx hb hK hP (11 + (0 : Int32).toNatClampNeg) 0 (wC_row2 (vp_lt (by unfold vp_in; decide))) rfl (in_isDoor hKK c_5) d_C_doorLoss_17 ?_
    refine lv_iconst (v := (1 : Int32)) hx hb d_C_doorLoss_18 (by decide) ?_
    refine lv_icmp_ne (tgt := 26) hx hb d_C_doorLoss_19 (by decide) (fun c_19 => ?_) (fun c_19 => ?_)
    · refine lv_iconst (v := (0 : Int32)) hx hb d_C_doorLoss_26 (by decide) ?_
      refine lv_istore_n (lv' := [(3, .int (0 : Int32)), (0, .ref (a 0)), (1, .int dr), (2, .int mk)]) hx hb d_C_doorLoss_27 rfl hl (by decide) rfl (fun ls hl => ?_)
      refine lv_iload_n hx hb d_C_doorLoss_28 rfl (lv_at hl 3 rfl) ?_
      refine lv_iconst (v := (3 : Int32)) hx hb d_C_doorLoss_29 (by decide) ?_
      refine lv_icmp_ne (tgt := 43) hx hb d_C_doorLoss_30 (by decide) (fun c_30 => ?_) (fun c_30 => ?_)
      · refine lv_iload_n hx hb d_C_doorLoss_43 rfl (lv_at hl 0 rfl) ?_
        refine lv_if_eq (tgt := 49) hx hb d_C_doorLoss_44 (by decide) (fun c_44 => ?_) (fun c_44 => absurd c_44 (by decide))
        refine lv_aload_n hx hb d_C_doorLoss_49 rfl (lv_at hl 1 rfl) ?_
        refine va_get (D := D) (ci := 0) (v := .ref (a 10)) (C := R_C) (T := F_C) (N := 9) hx hb hts i_C hown hK hP 0 rfl rfl 7 (by decide) (hts _ fl_C_34) (fun _ h9 => h9) rfl d_C_doorLoss_50 ?_
        refine lv_iconst (v := (1 : Int32)) hx hb d_C_doorLoss_53 (by decide) ?_
        refine x_ald2 hx hb hK hP (by unfold vp_in; decide) d_C_doorLoss_54 ?_
        refine lv_iload_n hx hb d_C_doorLoss_55 rfl (lv_at hl 2 rfl) ?_
        refine va_iald (n := 10) hx hb hK hP (11 + (1 : Int32).toNatClampNeg) 0 (wC_row2 (vp_lt (by unfold vp_in; decide))) rfl (in_isDoor hKK c_5) d_C_doorLoss_56 ?_
        refine lv_iconst (v := (1 : Int32)) hx hb d_C_doorLoss_57 (by decide) ?_
        refine lv_icmp_ne (tgt := 65) hx hb d_C_doorLoss_58 (by decide) (fun c_58 => ?_) (fun c_58 => ?_)
        · refine lv_iconst (v := (-1 : Int32)) hx hb d_C_doorLoss_65 (by decide) ?_
          exact roRet hx hb hr rfl hlk (show (-1 : Int32) = k_doorLoss N K A dr mk from by rw [k_doorLoss, if_neg c_5, if_neg c_19, if_neg c_30, if_neg c_58]) d_C_doorLoss_66
        · refine lv_iconst (v := (3 : Int32)) hx hb d_C_doorLoss_61 (by decide) ?_
          refine lv_goto (tgt := 66) hx hb d_C_doorLoss_62 (by decide) ?_
          exact roRet hx hb hr rfl hlk (show (3 : Int32) = k_doorLoss N K A dr mk from by rw [k_doorLoss, if_neg c_5, if_neg c_19, if_neg c_30, if_pos c_58]) d_C_doorLoss_66
      · refine lv_iload_n hx hb d_C_doorLoss_33 rfl (lv_at hl 0 rfl) ?_
        refine lv_if_eq (tgt := 41) hx hb d_C_doorLoss_34 (by decide) (fun c_34 => ?_) (fun c_34 => absurd c_34 (by decide))
        refine lv_iconst (v := (3 : Int32)) hx hb d_C_doorLoss_41 (by decide) ?_
        exact roRet hx hb hr rfl hlk (show (3 : Int32) = k_doorLoss N K A dr mk from by rw [k_doorLoss, if_neg c_5, if_neg c_19, if_pos c_30]) d_C_doorLoss_42
    · refine lv_iconst (v := (1 : Int32)) hx hb d_C_doorLoss_22 (by decide) ?_
      refine lv_goto (tgt := 27) hx hb d_C_doorLoss_23 (by decide) ?_
      refine lv_istore_n (lv' := [(3, .int (1 : Int32)), (0, .ref (a 0)), (1, .int dr), (2, .int mk)]) hx hb d_C_doorLoss_27 rfl hl (by decide) rfl (fun ls hl => ?_)
      refine lv_iload_n hx hb d_C_doorLoss_28 rfl (lv_at hl 3 rfl) ?_
      refine lv_iconst (v := (3 : Int32)) hx hb d_C_doorLoss_29 (by decide) ?_
      refine lv_icmp_ne (tgt := 43) hx hb d_C_doorLoss_30 (by decide) (fun c_30 => ?_) (fun c_30 => ?_)
      · refine lv_iload_n hx hb d_C_doorLoss_43 rfl (lv_at hl 0 rfl) ?_
        refine lv_if_eq (tgt := 49) hx hb d_C_doorLoss_44 (by decide) (fun c_44 => absurd c_44 (by decide)) (fun c_44 => ?_)
        refine lv_iconst (v := (2 : Int32)) hx hb d_C_doorLoss_47 (by decide) ?_
        exact roRet hx hb hr rfl hlk (show (2 : Int32) = k_doorLoss N K A dr mk from by rw [k_doorLoss, if_neg c_5, if_pos c_19, if_neg c_30]) d_C_doorLoss_48
      · refine lv_iload_n hx hb d_C_doorLoss_33 rfl (lv_at hl 0 rfl) ?_
        refine lv_if_eq (tgt := 41) hx hb d_C_doorLoss_34 (by decide) (fun c_34 => absurd c_34 (by decide)) (fun c_34 => ?_)
        refine lv_iconst (v := (1 : Int32)) hx hb d_C_doorLoss_37 (by decide) ?_
        refine lv_goto (tgt := 42) hx hb d_C_doorLoss_38 (by decide) ?_
        exact roRet hx hb hr rfl hlk (show (1 : Int32) = k_doorLoss N K A dr mk from by rw [k_doorLoss, if_neg c_5, if_pos c_19, if_pos c_30]) d_C_doorLoss_42
  · refine lv_iconst (v := (-1 : Int32)) hx hb d_C_doorLoss_8 (by decide) ?_
    exact roRet hx hb hr rfl hlk (show (-1 : Int32) = k_doorLoss N K A dr mk from by rw [k_doorLoss, if_pos c_5]) d_C_doorLoss_9

def k_lossAt (N K : Nat) (A : Nat → Nat → Int32) (sp : Int32) : Int32 := (if (k_isThing N K A sp) = (0 : Int32) then (-1 : Int32) else (if (A 10 sp.toNatClampNeg) ≤ (0 : Int32) then (-1 : Int32) else (1000 : Int32) - (A 10 sp.toNatClampNeg)))
set_option maxHeartbeats 4000000 in
set_option maxRecDepth 100000 in
theorem ck_lossAt (l : Launch) (D : va_G) (a : Nat → Nat) (cI cII : ClassId) (N K : Nat) (A : Nat → Nat → Int32) (hN : N ≤ 30) (hKK : K ≤ 10) (sp : Int32) : Met l y_C_lossAt (Cond.code y_C_lossAt b_C_lossAt 2 (some .int) :: BW) ({ frames := 1, cells := 0, slots := 0, locals := 21 } : Room) (PcR D (wC a cI cII (nI N) (nI K) A) (tC cI cII) [.ref (a 0), .int sp]) (vp_Si (fun r => r = k_lossAt N K A sp)) 0 0 (fun _ => False) := by
  refine roStart (by decide) rfl (Nat.le_of_ble_eq_true rfl) (fun p e s m below meth c Sx hr hlk hP hK ls hl => ?_)
  obtain ⟨hx, hb, hml, hown, hts⟩ := id Sx
  have hl : lv_has ls 2 [(0, .ref (a 0)), (1, .int sp)] := hl
  refine lv_aload_n hx hb d_C_lossAt_0 rfl (lv_at hl 0 rfl) ?_
  refine lv_iload_n hx hb d_C_lossAt_1 rfl (lv_at hl 1 rfl) ?_
  refine xro (As := [.int sp]) (rest := []) Sx (ck_isThing l D a cI cII N K A hN hKK sp) v_C_isThing ⟨rfl, rfl, Nat.le_of_ble_eq_true rfl, Nat.le_of_ble_eq_true rfl⟩ hK hP (ci := 0) (q0 := 0) rfl rfl rfl hl.1 rfl (Nat.le_of_ble_eq_true rfl) d_C_lossAt_2 ⟨Nat.le_of_ble_eq_true rfl, Nat.le_of_ble_eq_true rfl⟩ (fun r hq => ?_)
  subst hq
  refine lv_if_eq (tgt := 30) hx hb d_C_lossAt_5 (by decide) (fun c_5 => ?_) (fun c_5 => ?_)
  · refine lv_iconst (v := (-1 : Int32)) hx hb d_C_lossAt_30 (by decide) ?_
    exact roRet hx hb hr rfl hlk (show (-1 : Int32) = k_lossAt N K A sp from by rw [k_lossAt, if_pos c_5]) d_C_lossAt_31
  · refine lv_aload_n hx hb d_C_lossAt_8 rfl (lv_at hl 0 rfl) ?_
    refine va_get (D := D) (ci := 0) (v := .ref (a 13)) (C := R_C) (T := F_C) (N := 9) hx hb hts i_C hown hK hP 0 rfl rfl 8 (by decide) (hts _ fl_C_37) (fun _ h9 => h9) rfl d_C_lossAt_9 ?_
    refine lv_iload_n hx hb d_C_lossAt_12 rfl (lv_at hl 1 rfl) ?_
    refine va_iald (n := 30) hx hb hK hP 13 0 rfl rfl (in_isThing hN c_5) d_C_lossAt_13 ?_
    refine lv_if_le (tgt := 30) hx hb d_C_lossAt_14 (by decide) (fun c_14 => ?_) (fun c_14 => ?_)
    · refine lv_iconst (v := (-1 : Int32)) hx hb d_C_lossAt_30 (by decide) ?_
      exact roRet hx hb hr rfl hlk (show (-1 : Int32) = k_lossAt N K A sp from by rw [k_lossAt, if_neg c_5, if_pos c_14]) d_C_lossAt_31
    · refine lv_sipush (v := (1000 : Int32)) hx hb d_C_lossAt_17 (by decide) ?_
      refine lv_aload_n hx hb d_C_lossAt_20 rfl (lv_at hl 0 rfl) ?_
      refine va_get (D := D) (ci := 0) (v := .ref (a 13)) (C := R_C) (T := F_C) (N := 9) hx hb hts i_C hown hK hP 0 rfl rfl 8 (by decide) (hts _ fl_C_37) (fun _ h9 => h9) rfl d_C_lossAt_21 ?_
      refine lv_iload_n hx hb d_C_lossAt_24 rfl (lv_at hl 1 rfl) ?_
      refine va_iald (n := 30) hx hb hK hP 13 0 rfl rfl (in_isThing hN c_5) d_C_lossAt_25 ?_
      refine lv_isub hx hb d_C_lossAt_26 ?_
      refine lv_goto (tgt := 31) hx hb d_C_lossAt_27 (by decide) ?_
      exact roRet hx hb hr rfl hlk (show (1000 : Int32) - (A 10 sp.toNatClampNeg) = k_lossAt N K A sp from by rw [k_lossAt, if_neg c_5, if_neg c_14]) d_C_lossAt_31

def k_endsIfTouched (view x y : Int32) : Int32 := (if x < (0 : Int32) then (0 : Int32) else (if (0 : Int32) ≤ y then (if (view &&& (((1 : Int32) <<< (x &&& 31)) ||| ((1 : Int32) <<< (y &&& 31)))) = (0 : Int32) then (0 : Int32) else ((1 : Int32) <<< (x &&& 31)) ||| ((1 : Int32) <<< (y &&& 31))) else (0 : Int32)))
set_option maxHeartbeats 4000000 in
set_option maxRecDepth 100000 in
theorem ck_endsIfTouched (l : Launch) (view x y : Int32) : Met l y_C_endsIfTouched (Cond.code y_C_endsIfTouched b_C_endsIfTouched 4 (some .int) :: BW) ({ frames := 0, cells := 0, slots := 0, locals := 0 } : Room) (va_Pc [.int view, .int x, .int y] (fun _ => True)) (vp_Si (fun r => r = k_endsIfTouched view x y)) 0 0 (fun _ => False) := by
  refine stStart (by decide) rfl (Nat.le_of_ble_eq_true rfl) (fun p e s m below meth c Sx hr hlk ls hl => ?_)
  obtain ⟨hx, hb, hml, hown, hts⟩ := id Sx
  have hl : lv_has ls 4 [(0, .int view), (1, .int x), (2, .int y)] := hl
  refine lv_iload_n hx hb d_C_endsIfTouched_0 rfl (lv_at hl 1 rfl) ?_
  refine lv_if_lt (tgt := 8) hx hb d_C_endsIfTouched_1 (by decide) (fun c_1 => ?_) (fun c_1 => ?_)
  · refine lv_iconst (v := (0 : Int32)) hx hb d_C_endsIfTouched_8 (by decide) ?_
    exact roRet hx hb hr rfl hlk (show (0 : Int32) = k_endsIfTouched view x y from by rw [k_endsIfTouched, if_pos c_1]) d_C_endsIfTouched_9
  · refine lv_iload_n hx hb d_C_endsIfTouched_4 rfl (lv_at hl 2 rfl) ?_
    refine lv_if_ge (tgt := 10) hx hb d_C_endsIfTouched_5 (by decide) (fun c_5 => ?_) (fun c_5 => ?_)
    · refine lv_iconst (v := (1 : Int32)) hx hb d_C_endsIfTouched_10 (by decide) ?_
      refine lv_iload_n hx hb d_C_endsIfTouched_11 rfl (lv_at hl 1 rfl) ?_
      refine lv_ishl hx hb d_C_endsIfTouched_12 ?_
      refine lv_iconst (v := (1 : Int32)) hx hb d_C_endsIfTouched_13 (by decide) ?_
      refine lv_iload_n hx hb d_C_endsIfTouched_14 rfl (lv_at hl 2 rfl) ?_
      refine lv_ishl hx hb d_C_endsIfTouched_15 ?_
      refine lv_ior hx hb d_C_endsIfTouched_16 ?_
      refine lv_istore_n (lv' := [(3, .int (((1 : Int32) <<< (x &&& 31)) ||| ((1 : Int32) <<< (y &&& 31)))), (0, .int view), (1, .int x), (2, .int y)]) hx hb d_C_endsIfTouched_17 rfl hl (by decide) rfl (fun ls hl => ?_)
      refine lv_iload_n hx hb d_C_endsIfTouched_18 rfl (lv_at hl 1 rfl) ?_
      refine lv_iload_n hx hb d_C_endsIfTouched_19 rfl (lv_at hl 0 rfl) ?_
      refine lv_iand hx hb d_C_endsIfTouched_20 ?_
      refine lv_if_eq (tgt := 28) hx hb d_C_endsIfTouched_21 (by decide) (fun c_21 => ?_) (fun c_21 => ?_)
      · refine lv_iconst (v := (0 : Int32)) hx hb d_C_endsIfTouched_28 (by decide) ?_
        exact roRet hx hb hr rfl hlk (show (0 : Int32) = k_endsIfTouched view x y from by rw [k_endsIfTouched, if_neg c_1, if_pos c_5, if_pos c_21]) d_C_endsIfTouched_29
      · refine lv_iload_n hx hb d_C_endsIfTouched_24 rfl (lv_at hl 0 rfl) ?_
        refine lv_goto (tgt := 29) hx hb d_C_endsIfTouched_25 (by decide) ?_
        exact roRet hx hb hr rfl hlk (show ((1 : Int32) <<< (x &&& 31)) ||| ((1 : Int32) <<< (y &&& 31)) = k_endsIfTouched view x y from by rw [k_endsIfTouched, if_neg c_1, if_pos c_5, if_neg c_21]) d_C_endsIfTouched_29
    · refine lv_iconst (v := (0 : Int32)) hx hb d_C_endsIfTouched_8 (by decide) ?_
      exact roRet hx hb hr rfl hlk (show (0 : Int32) = k_endsIfTouched view x y from by rw [k_endsIfTouched, if_neg c_1, if_neg c_5]) d_C_endsIfTouched_9

def k_isSeen (N K : Nat) (A : Nat → Nat → Int32) (x view : Int32) : Int32 := (if (k_spaceOf N K A x) = (-1 : Int32) then (0 : Int32) else (if (view &&& ((1 : Int32) <<< ((k_spaceOf N K A x) &&& 31))) = (0 : Int32) then (0 : Int32) else (if (A 10 (k_spaceOf N K A x).toNatClampNeg) ≤ (0 : Int32) then (0 : Int32) else (1 : Int32))))
set_option maxHeartbeats 4000000 in
set_option maxRecDepth 100000 in
theorem ck_isSeen (l : Launch) (D : va_G) (a : Nat → Nat) (cI cII : ClassId) (N K : Nat) (A : Nat → Nat → Int32) (hN : N ≤ 30) (hKK : K ≤ 10) (x view : Int32) : Met l y_C_isSeen (Cond.code y_C_isSeen b_C_isSeen 4 (some .boolean) :: BW) ({ frames := 4, cells := 0, slots := 0, locals := 87 } : Room) (PcR D (wC a cI cII (nI N) (nI K) A) (tC cI cII) [.ref (a 0), .int x, .int view]) (vp_Si (fun r => r = k_isSeen N K A x view)) 0 0 (fun _ => False) := by
  refine roStart (by decide) rfl (Nat.le_of_ble_eq_true rfl) (fun p e s m below meth c Sx hr hlk hP hK ls hl => ?_)
  obtain ⟨hx, hb, hml, hown, hts⟩ := id Sx
  have hl : lv_has ls 4 [(0, .ref (a 0)), (1, .int x), (2, .int view)] := hl
  refine lv_aload_n hx hb d_C_isSeen_0 rfl (lv_at hl 0 rfl) ?_
  refine lv_iload_n hx hb d_C_isSeen_1 rfl (lv_at hl 1 rfl) ?_
  refine xro (As := [.int x]) (rest := []) Sx (ck_spaceOf l D a cI cII N K A hN hKK x) v_C_spaceOf ⟨rfl, rfl, Nat.le_of_ble_eq_true rfl, Nat.le_of_ble_eq_true rfl⟩ hK hP (ci := 0) (q0 := 0) rfl rfl rfl hl.1 rfl (Nat.le_of_ble_eq_true rfl) d_C_isSeen_2 ⟨Nat.le_of_ble_eq_true rfl, Nat.le_of_ble_eq_true rfl⟩ (fun r hq => ?_)
  subst hq
  refine lv_istore_n (lv' := [(3, .int (k_spaceOf N K A x)), (0, .ref (a 0)), (1, .int x), (2, .int view)]) hx hb d_C_isSeen_5 rfl hl (by decide) rfl (fun ls hl => ?_)
  refine lv_iload_n hx hb d_C_isSeen_6 rfl (lv_at hl 0 rfl) ?_
  refine lv_iconst (v := (-1 : Int32)) hx hb d_C_isSeen_7 (by decide) ?_
  refine lv_icmp_eq (tgt := 32) hx hb d_C_isSeen_8 (by decide) (fun c_8 => ?_) (fun c_8 => ?_)
  · refine lv_iconst (v := (0 : Int32)) hx hb d_C_isSeen_32 (by decide) ?_
    exact roRet hx hb hr (by first | rfl | decide) hlk (show (0 : Int32) = k_isSeen N K A x view from by rw [k_isSeen, if_pos c_8]) d_C_isSeen_33
  · refine lv_iload_n hx hb d_C_isSeen_11 rfl (lv_at hl 3 rfl) ?_
    refine lv_iconst (v := (1 : Int32)) hx hb d_C_isSeen_12 (by decide) ?_
    refine lv_iload_n hx hb d_C_isSeen_13 rfl (lv_at hl 0 rfl) ?_
    refine lv_ishl hx hb d_C_isSeen_14 ?_
    refine lv_iand hx hb d_C_isSeen_15 ?_
    refine lv_if_eq (tgt := 32) hx hb d_C_isSeen_16 (by decide) (fun c_16 => ?_) (fun c_16 => ?_)
    · refine lv_iconst (v := (0 : Int32)) hx hb d_C_isSeen_32 (by decide) ?_
      exact roRet hx hb hr (by first | rfl | decide) hlk (show (0 : Int32) = k_isSeen N K A x view from by rw [k_isSeen, if_neg c_8, if_pos c_16]) d_C_isSeen_33
    · refine lv_aload_n hx hb d_C_isSeen_19 rfl (lv_at hl 1 rfl) ?_
      refine va_get (D := D) (ci := 0) (v := .ref (a 13)) (C := R_C) (T := F_C) (N := 9) hx hb hts i_C hown hK hP 0 rfl rfl 8 (by decide) (hts _ fl_C_37) (fun _ h9 => h9) rfl d_C_isSeen_20 ?_
      refine lv_iload_n hx hb d_C_isSeen_23 rfl (lv_at hl 0 rfl) ?_
      refine va_iald (n := 30) hx hb hK hP 13 0 rfl rfl (in_spaceOf hN c_8) d_C_isSeen_24 ?_
      refine lv_if_le (tgt := 32) hx hb d_C_isSeen_25 (by decide) (fun c_25 => ?_) (fun c_25 => ?_)
      · refine lv_iconst (v := (0 : Int32)) hx hb d_C_isSeen_32 (by decide) ?_
        exact roRet hx hb hr (by first | rfl | decide) hlk (show (0 : Int32) = k_isSeen N K A x view from by rw [k_isSeen, if_neg c_8, if_neg c_16, if_pos c_25]) d_C_isSeen_33
      · refine lv_iconst (v := (1 : Int32)) hx hb d_C_isSeen_28 (by decide) ?_
        refine lv_goto (tgt := 33) hx hb d_C_isSeen_29 (by decide) ?_
        exact roRet hx hb hr (by first | rfl | decide) hlk (show (1 : Int32) = k_isSeen N K A x view from by rw [k_isSeen, if_neg c_8, if_neg c_16, if_neg c_25]) d_C_isSeen_33

def k_partHeardOf (N K : Nat) (A : Nat → Nat → Int32) (x : Int32) : Int32 := (if (k_lossAt N K A (k_spaceOf N K A x)) = (-1 : Int32) then (0 : Int32) else (k_markOf N K A x (3 : Int32)) - (k_lossAt N K A (k_spaceOf N K A x)))
set_option maxHeartbeats 4000000 in
set_option maxRecDepth 100000 in
theorem ck_partHeardOf (l : Launch) (D : va_G) (a : Nat → Nat) (cI cII : ClassId) (N K : Nat) (A : Nat → Nat → Int32) (hN : N ≤ 30) (hKK : K ≤ 10) (x : Int32) : Met l y_C_partHeardOf (Cond.code y_C_partHeardOf b_C_partHeardOf 3 (some .int) :: BW) ({ frames := 4, cells := 0, slots := 0, locals := 87 } : Room) (PcR D (wC a cI cII (nI N) (nI K) A) (tC cI cII) [.ref (a 0), .int x]) (vp_Si (fun r => r = k_partHeardOf N K A x)) 0 0 (fun _ => False) := by
  refine roStart (by decide) rfl (Nat.le_of_ble_eq_true rfl) (fun p e s m below meth c Sx hr hlk hP hK ls hl => ?_)
  obtain ⟨hx, hb, hml, hown, hts⟩ := id Sx
  have hl : lv_has ls 3 [(0, .ref (a 0)), (1, .int x)] := hl
  refine lv_aload_n hx hb d_C_partHeardOf_0 rfl (lv_at hl 0 rfl) ?_
  refine lv_aload_n hx hb d_C_partHeardOf_1 rfl (lv_at hl 0 rfl) ?_
  refine lv_iload_n hx hb d_C_partHeardOf_2 rfl (lv_at hl 1 rfl) ?_
  refine xro (As := [.int x]) (rest := [.ref (a 0)]) Sx (ck_spaceOf l D a cI cII N K A hN hKK x) v_C_spaceOf ⟨rfl, rfl, Nat.le_of_ble_eq_true rfl, Nat.le_of_ble_eq_true rfl⟩ hK hP (ci := 0) (q0 := 0) rfl rfl rfl hl.1 rfl (Nat.le_of_ble_eq_true rfl) d_C_partHeardOf_3 ⟨Nat.le_of_ble_eq_true rfl, Nat.le_of_ble_eq_true rfl⟩ (fun r hq => ?_)
  subst hq
  refine xro (As := [.int (k_spaceOf N K A x)]) (rest := []) Sx (ck_lossAt l D a cI cII N K A hN hKK (k_spaceOf N K A x)) v_C_lossAt ⟨rfl, rfl, Nat.le_of_ble_eq_true rfl, Nat.le_of_ble_eq_true rfl⟩ hK hP (ci := 0) (q0 := 0) rfl rfl rfl hl.1 rfl (Nat.le_of_ble_eq_true rfl) d_C_partHeardOf_6 ⟨Nat.le_of_ble_eq_true rfl, Nat.le_of_ble_eq_true rfl⟩ (fun r hq => ?_)
  subst hq
  refine lv_istore_n (lv' := [(2, .int (k_lossAt N K A (k_spaceOf N K A x))), (0, .ref (a 0)), (1, .int x)]) hx hb d_C_partHeardOf_9 rfl hl (by decide) rfl (fun ls hl => ?_)
  refine lv_iload_n hx hb d_C_partHeardOf_10 rfl (lv_at hl 0 rfl) ?_
  refine lv_iconst (v := (-1 : Int32)) hx hb d_C_partHeardOf_11 (by decide) ?_
  refine lv_icmp_ne (tgt := 19) hx hb d_C_partHeardOf_12 (by decide) (fun c_12 => ?_) (fun c_12 => ?_)
  · refine lv_aload_n hx hb d_C_partHeardOf_19 rfl (lv_at hl 1 rfl) ?_
    refine lv_iload_n hx hb d_C_partHeardOf_20 rfl (lv_at hl 2 rfl) ?_
    refine lv_iconst (v := (3 : Int32)) hx hb d_C_partHeardOf_21 (by decide) ?_
    refine xro (As := [.int x, .int (3 : Int32)]) (rest := []) Sx (ck_markOf l D a cI cII N K A hN hKK x (3 : Int32)) v_C_markOf ⟨rfl, rfl, Nat.le_of_ble_eq_true rfl, Nat.le_of_ble_eq_true rfl⟩ hK hP (ci := 0) (q0 := 0) rfl rfl rfl hl.1 rfl (Nat.le_of_ble_eq_true rfl) d_C_partHeardOf_22 ⟨Nat.le_of_ble_eq_true rfl, Nat.le_of_ble_eq_true rfl⟩ (fun r hq => ?_)
    subst hq
    refine lv_iload_n hx hb d_C_partHeardOf_25 rfl (lv_at hl 0 rfl) ?_
    refine lv_isub hx hb d_C_partHeardOf_26 ?_
    exact roRet hx hb hr rfl hlk (show (k_markOf N K A x (3 : Int32)) - (k_lossAt N K A (k_spaceOf N K A x)) = k_partHeardOf N K A x from by rw [k_partHeardOf, if_neg c_12]) d_C_partHeardOf_27
  · refine lv_iconst (v := (0 : Int32)) hx hb d_C_partHeardOf_15 (by decide) ?_
    refine lv_goto (tgt := 27) hx hb d_C_partHeardOf_16 (by decide) ?_
    exact roRet hx hb hr rfl hlk (show (0 : Int32) = k_partHeardOf N K A x from by rw [k_partHeardOf, if_pos c_12]) d_C_partHeardOf_27

def k_widenedOverWalls_24 (N K : Nat) (A : Nat → Nat → Int32) : Nat → Nat → Int32 → Int32
  | 0, i, v2 => v2
  | k + 1, i, v2 => (if (k_wallLoss N K A (nI i) (2 : Int32)) = (-1 : Int32) then k_widenedOverWalls_24 N K A k (i + 1) v2 else k_widenedOverWalls_24 N K A k (i + 1) (v2 ||| (k_endsIfTouched v2 (nI i) (k_spaceOf N K A (nI i)))))
theorem k_widenedOverWalls_24_0 (N K : Nat) (A : Nat → Nat → Int32) (i : Nat) (v2 : Int32) : k_widenedOverWalls_24 N K A 0 i v2 = v2 := rfl
theorem k_widenedOverWalls_24_S (N K : Nat) (A : Nat → Nat → Int32) (k i : Nat) (v2 : Int32) : k_widenedOverWalls_24 N K A (k + 1) i v2 = (if (k_wallLoss N K A (nI i) (2 : Int32)) = (-1 : Int32) then k_widenedOverWalls_24 N K A k (i + 1) v2 else k_widenedOverWalls_24 N K A k (i + 1) (v2 ||| (k_endsIfTouched v2 (nI i) (k_spaceOf N K A (nI i))))) := rfl
set_option maxHeartbeats 4000000 in
set_option maxRecDepth 100000 in
theorem wk_widenedOverWalls_24 (l : Launch) (D : va_G) (a : Nat → Nat) (cI cII : ClassId) (N K : Nat) (A : Nat → Nat → Int32) (hN : N ≤ 30) (hKK : K ≤ 10) (view u3 u4 u5 : Int32) {p : Program} {e : Env} {s : State} {m : MethodId} {below : List Frame} {meth : Method} {c : Code} {Q : State → Prop} (Sx : CallFix p m c b_C_widenedOverWalls 7 s ([.ref (a 0), .int view] : List Value).toArray BW R_C) (hP : va_P D classes (wC a cI cII (nI N) (nI K) A) s.heap) (hK : va_K D classes (tC cI cII) s) : ∀ (k i : Nat), i + k = N → ∀ (v2 : Int32) (ls : Array Slot), lv_has ls 7 [(0, .ref (a 0)), (1, .int view), (2, .int v2), (3, .int u3), (4, .int u4), (5, .int u5), (6, .int (nI i))] → (∀ ls : Array Slot, lv_has ls 7 [(0, .ref (a 0)), (1, .int view), (2, .int (k_widenedOverWalls_24 N K A k i v2)), (3, .int u3), (4, .int u4), (5, .int u5)] → W p l e ({ frames := 4, cells := 0, slots := 0, locals := 87 } : Room) s m ([.ref (a 0), .int view] : List Value).toArray below meth c s.heap [] 0 0 Q (F0 m 65 ls [])) → W p l e ({ frames := 4, cells := 0, slots := 0, locals := 87 } : Room) s m ([.ref (a 0), .int view] : List Value).toArray below meth c s.heap [] 0 0 Q (F0 m 24 ls []) := by
  obtain ⟨hx, hb, hml, hown, hts⟩ := id Sx
  intro k
  induction k with
  | zero =>
    intro i hi v2 ls hl hk
    refine lv_iload hx hb d_C_widenedOverWalls_24 (lv_at hl 6 rfl) ?_
    refine lv_aload_n hx hb d_C_widenedOverWalls_26 rfl (lv_at hl 0 rfl) ?_
    refine va_get (D := D) (ci := 0) (v := .int (nI N)) (C := R_C) (T := F_C) (N := 9) hx hb hts i_C hown hK hP 0 rfl rfl 0 (by decide) (hts _ fl_C_7) (fun _ h9 => h9) rfl d_C_widenedOverWalls_27 ?_
    refine lv_icmp_ge (tgt := 65) hx hb d_C_widenedOverWalls_30 (by decide) (fun c_30 => ?_) (fun c_30 => absurd (nI_le (a := N) (b := i) (by omega) (by omega)) c_30)
    have e_b : k_widenedOverWalls_24 N K A 0 i v2 = v2 := by rw [k_widenedOverWalls_24_0]
    rw [e_b] at hk
    exact hk ls (lv_sub hl [0, 1, 2, 3, 4, 5] rfl)
  | succ k ih =>
    intro i hi v2 ls hl hk
    refine lv_iload hx hb d_C_widenedOverWalls_24 (lv_at hl 6 rfl) ?_
    refine lv_aload_n hx hb d_C_widenedOverWalls_26 rfl (lv_at hl 0 rfl) ?_
    refine va_get (D := D) (ci := 0) (v := .int (nI N)) (C := R_C) (T := F_C) (N := 9) hx hb hts i_C hown hK hP 0 rfl rfl 0 (by decide) (hts _ fl_C_7) (fun _ h9 => h9) rfl d_C_widenedOverWalls_27 ?_
    refine lv_icmp_ge (tgt := 65) hx hb d_C_widenedOverWalls_30 (by decide) (fun c_30 => absurd c_30 (nI_ge (a := i) (b := N) (by omega) (by omega))) (fun c_30 => ?_)
    refine lv_aload_n hx hb d_C_widenedOverWalls_33 rfl (lv_at hl 0 rfl) ?_
    refine lv_iload hx hb d_C_widenedOverWalls_34 (lv_at hl 6 rfl) ?_
    refine lv_iconst (v := (2 : Int32)) hx hb d_C_widenedOverWalls_36 (by decide) ?_
    refine xro (As := [.int (nI i), .int (2 : Int32)]) (rest := []) Sx (ck_wallLoss l D a cI cII N K A hN hKK (nI i) (2 : Int32)) v_C_wallLoss ⟨rfl, rfl, Nat.le_of_ble_eq_true rfl, Nat.le_of_ble_eq_true rfl⟩ hK hP (ci := 0) (q0 := 0) rfl rfl rfl hl.1 rfl (Nat.le_of_ble_eq_true rfl) d_C_widenedOverWalls_37 ⟨Nat.le_of_ble_eq_true rfl, Nat.le_of_ble_eq_true rfl⟩ (fun r hq => ?_)
    subst hq
    refine lv_iconst (v := (-1 : Int32)) hx hb d_C_widenedOverWalls_40 (by decide) ?_
    refine lv_icmp_eq (tgt := 59) hx hb d_C_widenedOverWalls_41 (by decide) (fun c_41 => ?_) (fun c_41 => ?_)
    · refine lv_iinc (v := nI (i + 1)) (lv' := [(6, .int (nI (i + 1))), (0, .ref (a 0)), (1, .int view), (2, .int v2), (3, .int u3), (4, .int u4), (5, .int u5)]) hx hb d_C_widenedOverWalls_59 hl (k := 6) rfl (nI_1 i) (by decide) rfl (fun ls hl => ?_)
      refine lv_goto (tgt := 24) hx hb d_C_widenedOverWalls_62 (by decide) ?_
      have e_b : k_widenedOverWalls_24 N K A (k + 1) i v2 = k_widenedOverWalls_24 N K A k (i + 1) v2 := by rw [k_widenedOverWalls_24_S, if_pos c_41]
      rw [e_b] at hk
      exact ih (i + 1) (by omega) v2 ls (lv_sub hl [1, 2, 3, 4, 5, 6, 0] rfl) hk
    · refine lv_iload_n hx hb d_C_widenedOverWalls_44 rfl (lv_at hl 2 rfl) ?_
      refine lv_iload_n hx hb d_C_widenedOverWalls_45 rfl (lv_at hl 2 rfl) ?_
      refine lv_iload hx hb d_C_widenedOverWalls_46 (lv_at hl 6 rfl) ?_
      refine lv_aload_n hx hb d_C_widenedOverWalls_48 rfl (lv_at hl 0 rfl) ?_
      refine lv_iload hx hb d_C_widenedOverWalls_49 (lv_at hl 6 rfl) ?_
      refine xro (As := [.int (nI i)]) (rest := [.int (nI i), .int v2, .int v2]) Sx (ck_spaceOf l D a cI cII N K A hN hKK (nI i)) v_C_spaceOf ⟨rfl, rfl, Nat.le_of_ble_eq_true rfl, Nat.le_of_ble_eq_true rfl⟩ hK hP (ci := 0) (q0 := 0) rfl rfl rfl hl.1 rfl (Nat.le_of_ble_eq_true rfl) d_C_widenedOverWalls_51 ⟨Nat.le_of_ble_eq_true rfl, Nat.le_of_ble_eq_true rfl⟩ (fun r hq => ?_)
      subst hq
      refine xst (As := [.int v2, .int (nI i), .int (k_spaceOf N K A (nI i))]) (rest := [.int v2]) Sx (ck_endsIfTouched l v2 (nI i) (k_spaceOf N K A (nI i))) v_C_endsIfTouched ⟨rfl, rfl, Nat.le_of_ble_eq_true rfl, Nat.le_of_ble_eq_true rfl⟩ rfl hl.1 rfl (Nat.le_of_ble_eq_true rfl) d_C_widenedOverWalls_54 ⟨Nat.le_of_ble_eq_true rfl, Nat.le_of_ble_eq_true rfl⟩ (fun r hq => ?_)
      subst hq
      refine lv_ior hx hb d_C_widenedOverWalls_57 ?_
      refine lv_istore_n (lv' := [(2, .int (v2 ||| (k_endsIfTouched v2 (nI i) (k_spaceOf N K A (nI i))))), (0, .ref (a 0)), (1, .int view), (3, .int u3), (4, .int u4), (5, .int u5), (6, .int (nI i))]) hx hb d_C_widenedOverWalls_58 rfl hl (by decide) rfl (fun ls hl => ?_)
      refine lv_iinc (v := nI (i + 1)) (lv' := [(6, .int (nI (i + 1))), (2, .int (v2 ||| (k_endsIfTouched v2 (nI i) (k_spaceOf N K A (nI i))))), (0, .ref (a 0)), (1, .int view), (3, .int u3), (4, .int u4), (5, .int u5)]) hx hb d_C_widenedOverWalls_59 hl (k := 6) rfl (nI_1 i) (by decide) rfl (fun ls hl => ?_)
      refine lv_goto (tgt := 24) hx hb d_C_widenedOverWalls_62 (by decide) ?_
      have e_b : k_widenedOverWalls_24 N K A (k + 1) i v2 = k_widenedOverWalls_24 N K A k (i + 1) (v2 ||| (k_endsIfTouched v2 (nI i) (k_spaceOf N K A (nI i)))) := by rw [k_widenedOverWalls_24_S, if_neg c_41]
      rw [e_b] at hk
      exact ih (i + 1) (by omega) (v2 ||| (k_endsIfTouched v2 (nI i) (k_spaceOf N K A (nI i)))) ls (lv_sub hl [2, 3, 1, 4, 5, 6, 0] rfl) hk
def k_widenedOverWalls_7 (N K : Nat) (A : Nat → Nat → Int32) : Nat → Nat → Int32 → Int32 → Int32
  | 0, i, v2, v3 => v2
  | k + 1, i, v2, v3 => (if v3 = (0 : Int32) then v2 else (if (k_widenedOverWalls_24 N K A N 0 v2) = v2 then k_widenedOverWalls_7 N K A k (i + 1) (k_widenedOverWalls_24 N K A N 0 v2) (0 : Int32) else k_widenedOverWalls_7 N K A k (i + 1) (k_widenedOverWalls_24 N K A N 0 v2) (1 : Int32)))
theorem k_widenedOverWalls_7_0 (N K : Nat) (A : Nat → Nat → Int32) (i : Nat) (v2 v3 : Int32) : k_widenedOverWalls_7 N K A 0 i v2 v3 = v2 := rfl
theorem k_widenedOverWalls_7_S (N K : Nat) (A : Nat → Nat → Int32) (k i : Nat) (v2 v3 : Int32) : k_widenedOverWalls_7 N K A (k + 1) i v2 v3 = (if v3 = (0 : Int32) then v2 else (if (k_widenedOverWalls_24 N K A N 0 v2) = v2 then k_widenedOverWalls_7 N K A k (i + 1) (k_widenedOverWalls_24 N K A N 0 v2) (0 : Int32) else k_widenedOverWalls_7 N K A k (i + 1) (k_widenedOverWalls_24 N K A N 0 v2) (1 : Int32))) := rfl
set_option maxHeartbeats 4000000 in
set_option maxRecDepth 100000 in
theorem wk_widenedOverWalls_7 (l : Launch) (D : va_G) (a : Nat → Nat) (cI cII : ClassId) (N K : Nat) (A : Nat → Nat → Int32) (hN : N ≤ 30) (hKK : K ≤ 10) (view : Int32) {p : Program} {e : Env} {s : State} {m : MethodId} {below : List Frame} {meth : Method} {c : Code} (Sx : CallFix p m c b_C_widenedOverWalls 7 s ([.ref (a 0), .int view] : List Value).toArray BW R_C) (hr : meth.sig.returnType = (some .int)) (hlk : meth.locks = false) (hP : va_P D classes (wC a cI cII (nI N) (nI K) A) s.heap) (hK : va_K D classes (tC cI cII) s) : ∀ (k i : Nat), i + k = 30 → ∀ (v2 v3 : Int32) (ls : Array Slot), lv_has ls 7 [(0, .ref (a 0)), (1, .int view), (2, .int v2), (3, .int v3), (4, .int (nI i))] → W p l e ({ frames := 4, cells := 0, slots := 0, locals := 87 } : Room) s m ([.ref (a 0), .int view] : List Value).toArray below meth c s.heap [] 0 0 (MQ below (vp_Si (fun r => r = k_widenedOverWalls_7 N K A k i v2 v3)) ([.ref (a 0), .int view] : List Value).toArray s 0 0 (fun _ => False)) (F0 m 7 ls []) := by
  obtain ⟨hx, hb, hml, hown, hts⟩ := id Sx
  intro k
  induction k with
  | zero =>
    intro i hi v2 v3 ls hl
    refine lv_iload hx hb d_C_widenedOverWalls_7 (lv_at hl 4 rfl) ?_
    refine lv_bipush (v := (30 : Int32)) hx hb d_C_widenedOverWalls_9 (by decide) ?_
    refine lv_icmp_ge (tgt := 83) hx hb d_C_widenedOverWalls_11 (by decide) (fun c_11 => ?_) (fun c_11 => absurd (nI_le (a := 30) (b := i) (by omega) (by omega)) c_11)
    refine lv_iload_n hx hb d_C_widenedOverWalls_83 rfl (lv_at hl 2 rfl) ?_
    exact roRet hx hb hr rfl hlk (show v2 = k_widenedOverWalls_7 N K A 0 i v2 v3 from by rw [k_widenedOverWalls_7_0]) d_C_widenedOverWalls_84
  | succ k ih =>
    intro i hi v2 v3 ls hl
    refine lv_iload hx hb d_C_widenedOverWalls_7 (lv_at hl 4 rfl) ?_
    refine lv_bipush (v := (30 : Int32)) hx hb d_C_widenedOverWalls_9 (by decide) ?_
    refine lv_icmp_ge (tgt := 83) hx hb d_C_widenedOverWalls_11 (by decide) (fun c_11 => absurd c_11 (nI_ge (a := i) (b := 30) (by omega) (by omega))) (fun c_11 => ?_)
    refine lv_iload_n hx hb d_C_widenedOverWalls_14 rfl (lv_at hl 3 rfl) ?_
    refine lv_if_eq (tgt := 83) hx hb d_C_widenedOverWalls_15 (by decide) (fun c_15 => ?_) (fun c_15 => ?_)
    · refine lv_iload_n hx hb d_C_widenedOverWalls_83 rfl (lv_at hl 2 rfl) ?_
      exact roRet hx hb hr rfl hlk (show v2 = k_widenedOverWalls_7 N K A (k + 1) i v2 v3 from by rw [k_widenedOverWalls_7_S, if_pos c_15]) d_C_widenedOverWalls_84
    · refine lv_iload_n hx hb d_C_widenedOverWalls_18 rfl (lv_at hl 2 rfl) ?_
      refine lv_istore (lv' := [(5, .int v2), (0, .ref (a 0)), (1, .int view), (2, .int v2), (3, .int v3), (4, .int (nI i))]) hx hb d_C_widenedOverWalls_19 hl (by decide) rfl (fun ls hl => ?_)
      refine lv_iconst (v := (0 : Int32)) hx hb d_C_widenedOverWalls_21 (by decide) ?_
      refine lv_istore (lv' := [(6, .int (0 : Int32)), (5, .int v2), (0, .ref (a 0)), (1, .int view), (2, .int v2), (3, .int v3), (4, .int (nI i))]) hx hb d_C_widenedOverWalls_22 hl (by decide) rfl (fun ls hl => ?_)
      refine wk_widenedOverWalls_24 l D a cI cII N K A hN hKK view v3 (nI i) v2 Sx hP hK N 0 (by omega) v2 ls (lv_sub hl [2, 3, 4, 5, 6, 1, 0] rfl) (fun ls hl => ?_)
      refine lv_iload_n hx hb d_C_widenedOverWalls_65 rfl (lv_at hl 2 rfl) ?_
      refine lv_iload hx hb d_C_widenedOverWalls_66 (lv_at hl 5 rfl) ?_
      refine lv_icmp_eq (tgt := 75) hx hb d_C_widenedOverWalls_68 (by decide) (fun c_68 => ?_) (fun c_68 => ?_)
      · refine lv_iconst (v := (0 : Int32)) hx hb d_C_widenedOverWalls_75 (by decide) ?_
        refine lv_istore_n (lv' := [(3, .int (0 : Int32)), (0, .ref (a 0)), (1, .int view), (2, .int (k_widenedOverWalls_24 N K A N 0 v2)), (4, .int (nI i)), (5, .int v2)]) hx hb d_C_widenedOverWalls_76 rfl hl (by decide) rfl (fun ls hl => ?_)
        refine lv_iinc (v := nI (i + 1)) (lv' := [(4, .int (nI (i + 1))), (3, .int (0 : Int32)), (0, .ref (a 0)), (1, .int view), (2, .int (k_widenedOverWalls_24 N K A N 0 v2)), (5, .int v2)]) hx hb d_C_widenedOverWalls_77 hl (k := 4) rfl (nI_1 i) (by decide) rfl (fun ls hl => ?_)
        refine lv_goto (tgt := 7) hx hb d_C_widenedOverWalls_80 (by decide) ?_
        have e_b : k_widenedOverWalls_7 N K A (k + 1) i v2 v3 = k_widenedOverWalls_7 N K A k (i + 1) (k_widenedOverWalls_24 N K A N 0 v2) (0 : Int32) := by rw [k_widenedOverWalls_7_S, if_neg c_15, if_pos c_68]
        rw [e_b]
        exact ih (i + 1) (by omega) (k_widenedOverWalls_24 N K A N 0 v2) (0 : Int32) ls (lv_sub hl [2, 3, 4, 1, 0] rfl)
      · refine lv_iconst (v := (1 : Int32)) hx hb d_C_widenedOverWalls_71 (by decide) ?_
        refine lv_goto (tgt := 76) hx hb d_C_widenedOverWalls_72 (by decide) ?_
        refine lv_istore_n (lv' := [(3, .int (1 : Int32)), (0, .ref (a 0)), (1, .int view), (2, .int (k_widenedOverWalls_24 N K A N 0 v2)), (4, .int (nI i)), (5, .int v2)]) hx hb d_C_widenedOverWalls_76 rfl hl (by decide) rfl (fun ls hl => ?_)
        refine lv_iinc (v := nI (i + 1)) (lv' := [(4, .int (nI (i + 1))), (3, .int (1 : Int32)), (0, .ref (a 0)), (1, .int view), (2, .int (k_widenedOverWalls_24 N K A N 0 v2)), (5, .int v2)]) hx hb d_C_widenedOverWalls_77 hl (k := 4) rfl (nI_1 i) (by decide) rfl (fun ls hl => ?_)
        refine lv_goto (tgt := 7) hx hb d_C_widenedOverWalls_80 (by decide) ?_
        have e_b : k_widenedOverWalls_7 N K A (k + 1) i v2 v3 = k_widenedOverWalls_7 N K A k (i + 1) (k_widenedOverWalls_24 N K A N 0 v2) (1 : Int32) := by rw [k_widenedOverWalls_7_S, if_neg c_15, if_neg c_68]
        rw [e_b]
        exact ih (i + 1) (by omega) (k_widenedOverWalls_24 N K A N 0 v2) (1 : Int32) ls (lv_sub hl [2, 3, 4, 1, 0] rfl)
def k_widenedOverWalls (N K : Nat) (A : Nat → Nat → Int32) (view : Int32) : Int32 := k_widenedOverWalls_7 N K A 30 0 view (1 : Int32)
set_option maxHeartbeats 4000000 in
set_option maxRecDepth 100000 in
theorem ck_widenedOverWalls (l : Launch) (D : va_G) (a : Nat → Nat) (cI cII : ClassId) (N K : Nat) (A : Nat → Nat → Int32) (hN : N ≤ 30) (hKK : K ≤ 10) (view : Int32) : Met l y_C_widenedOverWalls (Cond.code y_C_widenedOverWalls b_C_widenedOverWalls 7 (some .int) :: BW) ({ frames := 4, cells := 0, slots := 0, locals := 87 } : Room) (PcR D (wC a cI cII (nI N) (nI K) A) (tC cI cII) [.ref (a 0), .int view]) (vp_Si (fun r => r = k_widenedOverWalls N K A view)) 0 0 (fun _ => False) := by
  refine roStart (by decide) rfl (Nat.le_of_ble_eq_true rfl) (fun p e s m below meth c Sx hr hlk hP hK ls hl => ?_)
  obtain ⟨hx, hb, hml, hown, hts⟩ := id Sx
  have hl : lv_has ls 7 [(0, .ref (a 0)), (1, .int view)] := hl
  refine lv_iload_n hx hb d_C_widenedOverWalls_0 rfl (lv_at hl 1 rfl) ?_
  refine lv_istore_n (lv' := [(2, .int view), (0, .ref (a 0)), (1, .int view)]) hx hb d_C_widenedOverWalls_1 rfl hl (by decide) rfl (fun ls hl => ?_)
  refine lv_iconst (v := (1 : Int32)) hx hb d_C_widenedOverWalls_2 (by decide) ?_
  refine lv_istore_n (lv' := [(3, .int (1 : Int32)), (2, .int view), (0, .ref (a 0)), (1, .int view)]) hx hb d_C_widenedOverWalls_3 rfl hl (by decide) rfl (fun ls hl => ?_)
  refine lv_iconst (v := (0 : Int32)) hx hb d_C_widenedOverWalls_4 (by decide) ?_
  refine lv_istore (lv' := [(4, .int (0 : Int32)), (3, .int (1 : Int32)), (2, .int view), (0, .ref (a 0)), (1, .int view)]) hx hb d_C_widenedOverWalls_5 hl (by decide) rfl (fun ls hl => ?_)
  have e_7 : k_widenedOverWalls N K A view = k_widenedOverWalls_7 N K A 30 0 view (1 : Int32) := by rw [k_widenedOverWalls]
  rw [e_7]
  exact wk_widenedOverWalls_7 l D a cI cII N K A hN hKK view Sx hr hlk hP hK 30 0 (by omega) view (1 : Int32) ls (lv_sub hl [3, 4, 2, 1, 0] rfl)

def k_widenedOverOneDoor_4 (N K : Nat) (A : Nat → Nat → Int32) (view : Int32) : Nat → Nat → Int32 → Int32
  | 0, i, v2 => v2
  | k + 1, i, v2 => (if (k_doorLoss N K A (nI i) (2 : Int32)) = (-1 : Int32) then k_widenedOverOneDoor_4 N K A view k (i + 1) v2 else k_widenedOverOneDoor_4 N K A view k (i + 1) (v2 ||| (k_endsIfTouched view (A 6 (nI i).toNatClampNeg) (A 7 (nI i).toNatClampNeg))))
theorem k_widenedOverOneDoor_4_0 (N K : Nat) (A : Nat → Nat → Int32) (view : Int32) (i : Nat) (v2 : Int32) : k_widenedOverOneDoor_4 N K A view 0 i v2 = v2 := rfl
theorem k_widenedOverOneDoor_4_S (N K : Nat) (A : Nat → Nat → Int32) (view : Int32) (k i : Nat) (v2 : Int32) : k_widenedOverOneDoor_4 N K A view (k + 1) i v2 = (if (k_doorLoss N K A (nI i) (2 : Int32)) = (-1 : Int32) then k_widenedOverOneDoor_4 N K A view k (i + 1) v2 else k_widenedOverOneDoor_4 N K A view k (i + 1) (v2 ||| (k_endsIfTouched view (A 6 (nI i).toNatClampNeg) (A 7 (nI i).toNatClampNeg)))) := rfl
set_option maxHeartbeats 4000000 in
set_option maxRecDepth 100000 in
theorem wk_widenedOverOneDoor_4 (l : Launch) (D : va_G) (a : Nat → Nat) (cI cII : ClassId) (N K : Nat) (A : Nat → Nat → Int32) (hN : N ≤ 30) (hKK : K ≤ 10) (view : Int32) {p : Program} {e : Env} {s : State} {m : MethodId} {below : List Frame} {meth : Method} {c : Code} (Sx : CallFix p m c b_C_widenedOverOneDoor 4 s ([.ref (a 0), .int view] : List Value).toArray BW R_C) (hr : meth.sig.returnType = (some .int)) (hlk : meth.locks = false) (hP : va_P D classes (wC a cI cII (nI N) (nI K) A) s.heap) (hK : va_K D classes (tC cI cII) s) : ∀ (k i : Nat), i + k = K → ∀ (v2 : Int32) (ls : Array Slot), lv_has ls 4 [(0, .ref (a 0)), (1, .int view), (2, .int v2), (3, .int (nI i))] → W p l e ({ frames := 2, cells := 0, slots := 0, locals := 44 } : Room) s m ([.ref (a 0), .int view] : List Value).toArray below meth c s.heap [] 0 0 (MQ below (vp_Si (fun r => r = k_widenedOverOneDoor_4 N K A view k i v2)) ([.ref (a 0), .int view] : List Value).toArray s 0 0 (fun _ => False)) (F0 m 4 ls []) := by
  obtain ⟨hx, hb, hml, hown, hts⟩ := id Sx
  intro k
  induction k with
  | zero =>
    intro i hi v2 ls hl
    refine lv_iload_n hx hb d_C_widenedOverOneDoor_4 rfl (lv_at hl 3 rfl) ?_
    refine lv_aload_n hx hb d_C_widenedOverOneDoor_5 rfl (lv_at hl 0 rfl) ?_
    refine va_get (D := D) (ci := 0) (v := .int (nI K)) (C := R_C) (T := F_C) (N := 9) hx hb hts i_C hown hK hP 0 rfl rfl 4 (by decide) (hts _ fl_C_25) (fun _ h9 => h9) rfl d_C_widenedOverOneDoor_6 ?_
    refine lv_icmp_ge (tgt := 47) hx hb d_C_widenedOverOneDoor_9 (by decide) (fun c_9 => ?_) (fun c_9 => absurd (nI_le (a := K) (b := i) (by omega) (by omega)) c_9)
    refine lv_iload_n hx hb d_C_widenedOverOneDoor_47 rfl (lv_at hl 2 rfl) ?_
    exact roRet hx hb hr rfl hlk (show v2 = k_widenedOverOneDoor_4 N K A view 0 i v2 from by rw [k_widenedOverOneDoor_4_0]) d_C_widenedOverOneDoor_48
  | succ k ih =>
    intro i hi v2 ls hl
    refine lv_iload_n hx hb d_C_widenedOverOneDoor_4 rfl (lv_at hl 3 rfl) ?_
    refine lv_aload_n hx hb d_C_widenedOverOneDoor_5 rfl (lv_at hl 0 rfl) ?_
    refine va_get (D := D) (ci := 0) (v := .int (nI K)) (C := R_C) (T := F_C) (N := 9) hx hb hts i_C hown hK hP 0 rfl rfl 4 (by decide) (hts _ fl_C_25) (fun _ h9 => h9) rfl d_C_widenedOverOneDoor_6 ?_
    refine lv_icmp_ge (tgt := 47) hx hb d_C_widenedOverOneDoor_9 (by decide) (fun c_9 => absurd c_9 (nI_ge (a := i) (b := K) (by omega) (by omega))) (fun c_9 => ?_)
    refine lv_aload_n hx hb d_C_widenedOverOneDoor_12 rfl (lv_at hl 0 rfl) ?_
    refine lv_iload_n hx hb d_C_widenedOverOneDoor_13 rfl (lv_at hl 3 rfl) ?_
    refine lv_iconst (v := (2 : Int32)) hx hb d_C_widenedOverOneDoor_14 (by decide) ?_
    refine xro (As := [.int (nI i), .int (2 : Int32)]) (rest := []) Sx (ck_doorLoss l D a cI cII N K A hN hKK (nI i) (2 : Int32)) v_C_doorLoss ⟨rfl, rfl, Nat.le_of_ble_eq_true rfl, Nat.le_of_ble_eq_true rfl⟩ hK hP (ci := 0) (q0 := 0) rfl rfl rfl hl.1 rfl (Nat.le_of_ble_eq_true rfl) d_C_widenedOverOneDoor_15 ⟨Nat.le_of_ble_eq_true rfl, Nat.le_of_ble_eq_true rfl⟩ (fun r hq => ?_)
    subst hq
    refine lv_iconst (v := (-1 : Int32)) hx hb d_C_widenedOverOneDoor_18 (by decide) ?_
    refine lv_icmp_eq (tgt := 41) hx hb d_C_widenedOverOneDoor_19 (by decide) (fun c_19 => ?_) (fun c_19 => ?_)
    · refine lv_iinc (v := nI (i + 1)) (lv' := [(3, .int (nI (i + 1))), (0, .ref (a 0)), (1, .int view), (2, .int v2)]) hx hb d_C_widenedOverOneDoor_41 hl (k := 3) rfl (nI_1 i) (by decide) rfl (fun ls hl => ?_)
      refine lv_goto (tgt := 4) hx hb d_C_widenedOverOneDoor_44 (by decide) ?_
      have e_b : k_widenedOverOneDoor_4 N K A view (k + 1) i v2 = k_widenedOverOneDoor_4 N K A view k (i + 1) v2 := by rw [k_widenedOverOneDoor_4_S, if_pos c_19]
      rw [e_b]
      exact ih (i + 1) (by omega) v2 ls (lv_sub hl [1, 2, 3, 0] rfl)
    · refine lv_iload_n hx hb d_C_widenedOverOneDoor_22 rfl (lv_at hl 2 rfl) ?_
      refine lv_iload_n hx hb d_C_widenedOverOneDoor_23 rfl (lv_at hl 1 rfl) ?_
      refine lv_aload_n hx hb d_C_widenedOverOneDoor_24 rfl (lv_at hl 0 rfl) ?_
      refine va_get (D := D) (ci := 0) (v := .ref (a 8)) (C := R_C) (T := F_C) (N := 9) hx hb hts i_C hown hK hP 0 rfl rfl 5 (by decide) (hts _ fl_C_28) (fun _ h9 => h9) rfl d_C_widenedOverOneDoor_25 ?_
      refine lv_iload_n hx hb d_C_widenedOverOneDoor_28 rfl (lv_at hl 3 rfl) ?_
      refine va_iald (n := 10) hx hb hK hP 8 0 rfl rfl (vp_in_nI (by omega) (by omega)) d_C_widenedOverOneDoor_29 ?_
      refine lv_aload_n hx hb d_C_widenedOverOneDoor_30 rfl (lv_at hl 0 rfl) ?_
      refine va_get (D := D) (ci := 0) (v := .ref (a 9)) (C := R_C) (T := F_C) (N := 9) hx hb hts i_C hown hK hP 0 rfl rfl 6 (by decide) (hts _ fl_C_31) (fun _ h9 => h9) rfl d_C_widenedOverOneDoor_31 ?_
      refine lv_iload_n hx hb d_C_widenedOverOneDoor_34 rfl (lv_at hl 3 rfl) ?_
      refine va_iald (n := 10) hx hb hK hP 9 0 rfl rfl (vp_in_nI (by omega) (by omega)) d_C_widenedOverOneDoor_35 ?_
      refine xst (As := [.int view, .int (A 6 (nI i).toNatClampNeg), .int (A 7 (nI i).toNatClampNeg)]) (rest := [.int v2]) Sx (ck_endsIfTouched l view (A 6 (nI i).toNatClampNeg) (A 7 (nI i).toNatClampNeg)) v_C_endsIfTouched ⟨rfl, rfl, Nat.le_of_ble_eq_true rfl, Nat.le_of_ble_eq_true rfl⟩ rfl hl.1 rfl (Nat.le_of_ble_eq_true rfl) d_C_widenedOverOneDoor_36 ⟨Nat.le_of_ble_eq_true rfl, Nat.le_of_ble_eq_true rfl⟩ (fun r hq => ?_)
      subst hq
      refine lv_ior hx hb d_C_widenedOverOneDoor_39 ?_
      refine lv_istore_n (lv' := [(2, .int (v2 ||| (k_endsIfTouched view (A 6 (nI i).toNatClampNeg) (A 7 (nI i).toNatClampNeg)))), (0, .ref (a 0)), (1, .int view), (3, .int (nI i))]) hx hb d_C_widenedOverOneDoor_40 rfl hl (by decide) rfl (fun ls hl => ?_)
      refine lv_iinc (v := nI (i + 1)) (lv' := [(3, .int (nI (i + 1))), (2, .int (v2 ||| (k_endsIfTouched view (A 6 (nI i).toNatClampNeg) (A 7 (nI i).toNatClampNeg)))), (0, .ref (a 0)), (1, .int view)]) hx hb d_C_widenedOverOneDoor_41 hl (k := 3) rfl (nI_1 i) (by decide) rfl (fun ls hl => ?_)
      refine lv_goto (tgt := 4) hx hb d_C_widenedOverOneDoor_44 (by decide) ?_
      have e_b : k_widenedOverOneDoor_4 N K A view (k + 1) i v2 = k_widenedOverOneDoor_4 N K A view k (i + 1) (v2 ||| (k_endsIfTouched view (A 6 (nI i).toNatClampNeg) (A 7 (nI i).toNatClampNeg))) := by rw [k_widenedOverOneDoor_4_S, if_neg c_19]
      rw [e_b]
      exact ih (i + 1) (by omega) (v2 ||| (k_endsIfTouched view (A 6 (nI i).toNatClampNeg) (A 7 (nI i).toNatClampNeg))) ls (lv_sub hl [2, 3, 1, 0] rfl)
def k_widenedOverOneDoor (N K : Nat) (A : Nat → Nat → Int32) (view : Int32) : Int32 := k_widenedOverOneDoor_4 N K A view K 0 view
set_option maxHeartbeats 4000000 in
set_option maxRecDepth 100000 in
theorem ck_widenedOverOneDoor (l : Launch) (D : va_G) (a : Nat → Nat) (cI cII : ClassId) (N K : Nat) (A : Nat → Nat → Int32) (hN : N ≤ 30) (hKK : K ≤ 10) (view : Int32) : Met l y_C_widenedOverOneDoor (Cond.code y_C_widenedOverOneDoor b_C_widenedOverOneDoor 4 (some .int) :: BW) ({ frames := 2, cells := 0, slots := 0, locals := 44 } : Room) (PcR D (wC a cI cII (nI N) (nI K) A) (tC cI cII) [.ref (a 0), .int view]) (vp_Si (fun r => r = k_widenedOverOneDoor N K A view)) 0 0 (fun _ => False) := by
  refine roStart (by decide) rfl (Nat.le_of_ble_eq_true rfl) (fun p e s m below meth c Sx hr hlk hP hK ls hl => ?_)
  obtain ⟨hx, hb, hml, hown, hts⟩ := id Sx
  have hl : lv_has ls 4 [(0, .ref (a 0)), (1, .int view)] := hl
  refine lv_iload_n hx hb d_C_widenedOverOneDoor_0 rfl (lv_at hl 1 rfl) ?_
  refine lv_istore_n (lv' := [(2, .int view), (0, .ref (a 0)), (1, .int view)]) hx hb d_C_widenedOverOneDoor_1 rfl hl (by decide) rfl (fun ls hl => ?_)
  refine lv_iconst (v := (0 : Int32)) hx hb d_C_widenedOverOneDoor_2 (by decide) ?_
  refine lv_istore_n (lv' := [(3, .int (0 : Int32)), (2, .int view), (0, .ref (a 0)), (1, .int view)]) hx hb d_C_widenedOverOneDoor_3 rfl hl (by decide) rfl (fun ls hl => ?_)
  have e_4 : k_widenedOverOneDoor N K A view = k_widenedOverOneDoor_4 N K A view K 0 view := by rw [k_widenedOverOneDoor]
  rw [e_4]
  exact wk_widenedOverOneDoor_4 l D a cI cII N K A hN hKK view Sx hr hlk hP hK K 0 (by omega) view ls (lv_sub hl [2, 3, 1, 0] rfl)

def k_viewOf (N K : Nat) (A : Nat → Nat → Int32) (who : Int32) : Int32 := (if (k_spaceOf N K A who) = (-1 : Int32) then (0 : Int32) else k_widenedOverWalls N K A (k_widenedOverOneDoor N K A (k_widenedOverWalls N K A ((1 : Int32) <<< ((k_spaceOf N K A who) &&& 31)))))
set_option maxHeartbeats 4000000 in
set_option maxRecDepth 100000 in
theorem ck_viewOf (l : Launch) (D : va_G) (a : Nat → Nat) (cI cII : ClassId) (N K : Nat) (A : Nat → Nat → Int32) (hN : N ≤ 30) (hKK : K ≤ 10) (who : Int32) : Met l y_C_viewOf (Cond.code y_C_viewOf b_C_viewOf 4 (some .int) :: BW) ({ frames := 5, cells := 0, slots := 0, locals := 113 } : Room) (PcR D (wC a cI cII (nI N) (nI K) A) (tC cI cII) [.ref (a 0), .int who]) (vp_Si (fun r => r = k_viewOf N K A who)) 0 0 (fun _ => False) := by
  refine roStart (by decide) rfl (Nat.le_of_ble_eq_true rfl) (fun p e s m below meth c Sx hr hlk hP hK ls hl => ?_)
  obtain ⟨hx, hb, hml, hown, hts⟩ := id Sx
  have hl : lv_has ls 4 [(0, .ref (a 0)), (1, .int who)] := hl
  refine lv_aload_n hx hb d_C_viewOf_0 rfl (lv_at hl 0 rfl) ?_
  refine lv_iload_n hx hb d_C_viewOf_1 rfl (lv_at hl 1 rfl) ?_
  refine xro (As := [.int who]) (rest := []) Sx (ck_spaceOf l D a cI cII N K A hN hKK who) v_C_spaceOf ⟨rfl, rfl, Nat.le_of_ble_eq_true rfl, Nat.le_of_ble_eq_true rfl⟩ hK hP (ci := 0) (q0 := 0) rfl rfl rfl hl.1 rfl (Nat.le_of_ble_eq_true rfl) d_C_viewOf_2 ⟨Nat.le_of_ble_eq_true rfl, Nat.le_of_ble_eq_true rfl⟩ (fun r hq => ?_)
  subst hq
  refine lv_istore_n (lv' := [(2, .int (k_spaceOf N K A who)), (0, .ref (a 0)), (1, .int who)]) hx hb d_C_viewOf_5 rfl hl (by decide) rfl (fun ls hl => ?_)
  refine lv_iload_n hx hb d_C_viewOf_6 rfl (lv_at hl 0 rfl) ?_
  refine lv_iconst (v := (-1 : Int32)) hx hb d_C_viewOf_7 (by decide) ?_
  refine lv_icmp_ne (tgt := 13) hx hb d_C_viewOf_8 (by decide) (fun c_8 => ?_) (fun c_8 => ?_)
  · refine lv_aload_n hx hb d_C_viewOf_13 rfl (lv_at hl 1 rfl) ?_
    refine lv_iconst (v := (1 : Int32)) hx hb d_C_viewOf_14 (by decide) ?_
    refine lv_iload_n hx hb d_C_viewOf_15 rfl (lv_at hl 0 rfl) ?_
    refine lv_ishl hx hb d_C_viewOf_16 ?_
    refine xro (As := [.int ((1 : Int32) <<< ((k_spaceOf N K A who) &&& 31))]) (rest := []) Sx (ck_widenedOverWalls l D a cI cII N K A hN hKK ((1 : Int32) <<< ((k_spaceOf N K A who) &&& 31))) v_C_widenedOverWalls ⟨rfl, rfl, Nat.le_of_ble_eq_true rfl, Nat.le_of_ble_eq_true rfl⟩ hK hP (ci := 0) (q0 := 0) rfl rfl rfl hl.1 rfl (Nat.le_of_ble_eq_true rfl) d_C_viewOf_17 ⟨Nat.le_of_ble_eq_true rfl, Nat.le_of_ble_eq_true rfl⟩ (fun r hq => ?_)
    subst hq
    refine lv_istore_n (lv' := [(3, .int (k_widenedOverWalls N K A ((1 : Int32) <<< ((k_spaceOf N K A who) &&& 31)))), (2, .int (k_spaceOf N K A who)), (0, .ref (a 0)), (1, .int who)]) hx hb d_C_viewOf_20 rfl hl (by decide) rfl (fun ls hl => ?_)
    refine lv_aload_n hx hb d_C_viewOf_21 rfl (lv_at hl 2 rfl) ?_
    refine lv_aload_n hx hb d_C_viewOf_22 rfl (lv_at hl 2 rfl) ?_
    refine lv_iload_n hx hb d_C_viewOf_23 rfl (lv_at hl 0 rfl) ?_
    refine xro (As := [.int (k_widenedOverWalls N K A ((1 : Int32) <<< ((k_spaceOf N K A who) &&& 31)))]) (rest := [.ref (a 0)]) Sx (ck_widenedOverOneDoor l D a cI cII N K A hN hKK (k_widenedOverWalls N K A ((1 : Int32) <<< ((k_spaceOf N K A who) &&& 31)))) v_C_widenedOverOneDoor ⟨rfl, rfl, Nat.le_of_ble_eq_true rfl, Nat.le_of_ble_eq_true rfl⟩ hK hP (ci := 0) (q0 := 0) rfl rfl rfl hl.1 rfl (Nat.le_of_ble_eq_true rfl) d_C_viewOf_24 ⟨Nat.le_of_ble_eq_true rfl, Nat.le_of_ble_eq_true rfl⟩ (fun r hq => ?_)
    subst hq
    refine xro (As := [.int (k_widenedOverOneDoor N K A (k_widenedOverWalls N K A ((1 : Int32) <<< ((k_spaceOf N K A who) &&& 31))))]) (rest := []) Sx (ck_widenedOverWalls l D a cI cII N K A hN hKK (k_widenedOverOneDoor N K A (k_widenedOverWalls N K A ((1 : Int32) <<< ((k_spaceOf N K A who) &&& 31))))) v_C_widenedOverWalls ⟨rfl, rfl, Nat.le_of_ble_eq_true rfl, Nat.le_of_ble_eq_true rfl⟩ hK hP (ci := 0) (q0 := 0) rfl rfl rfl hl.1 rfl (Nat.le_of_ble_eq_true rfl) d_C_viewOf_27 ⟨Nat.le_of_ble_eq_true rfl, Nat.le_of_ble_eq_true rfl⟩ (fun r hq => ?_)
    subst hq
    exact roRet hx hb hr rfl hlk (show k_widenedOverWalls N K A (k_widenedOverOneDoor N K A (k_widenedOverWalls N K A ((1 : Int32) <<< ((k_spaceOf N K A who) &&& 31)))) = k_viewOf N K A who from by rw [k_viewOf, if_neg c_8]) d_C_viewOf_30
  · refine lv_iconst (v := (0 : Int32)) hx hb d_C_viewOf_11 (by decide) ?_
    exact roRet hx hb hr rfl hlk (show (0 : Int32) = k_viewOf N K A who from by rw [k_viewOf, if_pos c_8]) d_C_viewOf_12

def k_count (N K : Nat) (A : Nat → Nat → Int32) (what : Int32) : Int32 := (if what = (0 : Int32) then nI N else (if what = (1 : Int32) then nI K else (-3 : Int32)))
set_option maxHeartbeats 4000000 in
set_option maxRecDepth 100000 in
theorem ck_count (l : Launch) (D : va_G) (a : Nat → Nat) (cI cII : ClassId) (N K : Nat) (A : Nat → Nat → Int32) (hN : N ≤ 30) (hKK : K ≤ 10) (what : Int32) : Met l y_C_count (Cond.code y_C_count b_C_count 2 (some .int) :: BW) ({ frames := 0, cells := 0, slots := 0, locals := 0 } : Room) (PcR D (wC a cI cII (nI N) (nI K) A) (tC cI cII) [.ref (a 0), .int what]) (vp_Si (fun r => r = k_count N K A what)) 0 0 (fun _ => False) := by
  refine roStart (by decide) rfl (Nat.le_of_ble_eq_true rfl) (fun p e s m below meth c Sx hr hlk hP hK ls hl => ?_)
  obtain ⟨hx, hb, hml, hown, hts⟩ := id Sx
  have hl : lv_has ls 2 [(0, .ref (a 0)), (1, .int what)] := hl
  refine lv_iload_n hx hb d_C_count_0 rfl (lv_at hl 1 rfl) ?_
  by_cases c_1_0 : what = (0 : Int32)
  · refine lv_lookup (off := (27 : Int)) (tgt := 28) hx hb d_C_count_1 (by decide) (by rw [c_1_0]; rfl) (by decide) ?_
    refine lv_aload_n hx hb d_C_count_28 rfl (lv_at hl 0 rfl) ?_
    refine va_get (D := D) (ci := 0) (v := .int (nI N)) (C := R_C) (T := F_C) (N := 9) hx hb hts i_C hown hK hP 0 rfl rfl 0 (by decide) (hts _ fl_C_7) (fun _ h9 => h9) rfl d_C_count_29 ?_
    exact roRet hx hb hr rfl hlk (show nI N = k_count N K A what from by rw [k_count, if_pos c_1_0]) d_C_count_32
  · skip
    by_cases c_1_1 : what = (1 : Int32)
    · refine lv_lookup (off := (32 : Int)) (tgt := 33) hx hb d_C_count_1 (by decide) (by rw [c_1_1]; rfl) (by decide) ?_
      refine lv_aload_n hx hb d_C_count_33 rfl (lv_at hl 0 rfl) ?_
      refine va_get (D := D) (ci := 0) (v := .int (nI K)) (C := R_C) (T := F_C) (N := 9) hx hb hts i_C hown hK hP 0 rfl rfl 4 (by decide) (hts _ fl_C_25) (fun _ h9 => h9) rfl d_C_count_34 ?_
      exact roRet hx hb hr rfl hlk (show nI K = k_count N K A what from by rw [k_count, if_neg c_1_0, if_pos c_1_1]) d_C_count_37
    · skip
      refine lv_lookup (off := (37 : Int)) (tgt := 38) hx hb d_C_count_1 (by decide) (by show Op.lookupswitch.offset [(0, 27), (1, 32)] 37 _ = _; rw [lv_osw c_1_0 (by decide), lv_osw c_1_1 (by decide)]; rfl) (by decide) ?_
      refine lv_bipush (v := (-3 : Int32)) hx hb d_C_count_38 (by decide) ?_
      exact roRet hx hb hr rfl hlk (show (-3 : Int32) = k_count N K A what from by rw [k_count, if_neg c_1_0, if_neg c_1_1]) d_C_count_40

def k_told (N K : Nat) (A : Nat → Nat → Int32) (x what : Int32) : Int32 := (if (k_isThing N K A x) = (0 : Int32) then (-2 : Int32) else (if what = (0 : Int32) then k_sortOf N K A x else (if what = (1 : Int32) then k_holderOf N K A x else (if what = (2 : Int32) then k_spaceOf N K A x else (if what = (3 : Int32) then k_countHeldBy N K A x else (if what = (4 : Int32) then k_countWithin N K A x else (if what = (5 : Int32) then k_markOf N K A x (0 : Int32) else (if what = (6 : Int32) then k_markOf N K A x (1 : Int32) else (if what = (7 : Int32) then k_markOf N K A x (2 : Int32) else (if what = (8 : Int32) then k_markOf N K A x (3 : Int32) else (-3 : Int32)))))))))))
set_option maxHeartbeats 4000000 in
set_option maxRecDepth 100000 in
theorem ck_told (l : Launch) (D : va_G) (a : Nat → Nat) (cI cII : ClassId) (N K : Nat) (A : Nat → Nat → Int32) (hN : N ≤ 30) (hKK : K ≤ 10) (x what : Int32) : Met l y_C_told (Cond.code y_C_told b_C_told 3 (some .int) :: BW) ({ frames := 4, cells := 0, slots := 0, locals := 89 } : Room) (PcR D (wC a cI cII (nI N) (nI K) A) (tC cI cII) [.ref (a 0), .int x, .int what]) (vp_Si (fun r => r = k_told N K A x what)) 0 0 (fun _ => False) := by
  refine roStart (by decide) rfl (Nat.le_of_ble_eq_true rfl) (fun p e s m below meth c Sx hr hlk hP hK ls hl => ?_)
  obtain ⟨hx, hb, hml, hown, hts⟩ := id Sx
  have hl : lv_has ls 3 [(0, .ref (a 0)), (1, .int x), (2, .int what)] := hl
  refine lv_aload_n hx hb d_C_told_0 rfl (lv_at hl 0 rfl) ?_
  refine lv_iload_n hx hb d_C_told_1 rfl (lv_at hl 1 rfl) ?_
  refine xro (As := [.int x]) (rest := []) Sx (ck_isThing l D a cI cII N K A hN hKK x) v_C_isThing ⟨rfl, rfl, Nat.le_of_ble_eq_true rfl, Nat.le_of_ble_eq_true rfl⟩ hK hP (ci := 0) (q0 := 0) rfl rfl rfl hl.1 rfl (Nat.le_of_ble_eq_true rfl) d_C_told_2 ⟨Nat.le_of_ble_eq_true rfl, Nat.le_of_ble_eq_true rfl⟩ (fun r hq => ?_)
  subst hq
  refine lv_if_ne (tgt := 11) hx hb d_C_told_5 (by decide) (fun c_5 => ?_) (fun c_5 => ?_)
  · refine lv_iload_n hx hb d_C_told_11 rfl (lv_at hl 2 rfl) ?_
    by_cases c_12_0 : what = (0 : Int32)
    · refine lv_tableIn (off := (52 : Int)) (tgt := 64) hx hb d_C_told_12 (by rw [c_12_0]; decide) (by rw [c_12_0]; decide) (by rw [c_12_0]; rfl) (by decide) ?_
      refine lv_aload_n hx hb d_C_told_64 rfl (lv_at hl 0 rfl) ?_
      refine lv_iload_n hx hb d_C_told_65 rfl (lv_at hl 1 rfl) ?_
      refine xro (As := [.int x]) (rest := []) Sx (ck_sortOf l D a cI cII N K A hN hKK x) v_C_sortOf ⟨rfl, rfl, Nat.le_of_ble_eq_true rfl, Nat.le_of_ble_eq_true rfl⟩ hK hP (ci := 0) (q0 := 0) rfl rfl rfl hl.1 rfl (Nat.le_of_ble_eq_true rfl) d_C_told_66 ⟨Nat.le_of_ble_eq_true rfl, Nat.le_of_ble_eq_true rfl⟩ (fun r hq => ?_)
      subst hq
      exact roRet hx hb hr rfl hlk (show k_sortOf N K A x = k_told N K A x what from by rw [k_told, if_neg c_5, if_pos c_12_0]) d_C_told_69
    · skip
      by_cases c_12_1 : what = (1 : Int32)
      · refine lv_tableIn (off := (58 : Int)) (tgt := 70) hx hb d_C_told_12 (by rw [c_12_1]; decide) (by rw [c_12_1]; decide) (by rw [c_12_1]; rfl) (by decide) ?_
        refine lv_aload_n hx hb d_C_told_70 rfl (lv_at hl 0 rfl) ?_
        refine lv_iload_n hx hb d_C_told_71 rfl (lv_at hl 1 rfl) ?_
        refine xro (As := [.int x]) (rest := []) Sx (ck_holderOf l D a cI cII N K A hN hKK x) v_C_holderOf ⟨rfl, rfl, Nat.le_of_ble_eq_true rfl, Nat.le_of_ble_eq_true rfl⟩ hK hP (ci := 0) (q0 := 0) rfl rfl rfl hl.1 rfl (Nat.le_of_ble_eq_true rfl) d_C_told_72 ⟨Nat.le_of_ble_eq_true rfl, Nat.le_of_ble_eq_true rfl⟩ (fun r hq => ?_)
        subst hq
        exact roRet hx hb hr rfl hlk (show k_holderOf N K A x = k_told N K A x what from by rw [k_told, if_neg c_5, if_neg c_12_0, if_pos c_12_1]) d_C_told_75
      · skip
        by_cases c_12_2 : what = (2 : Int32)
        · refine lv_tableIn (off := (64 : Int)) (tgt := 76) hx hb d_C_told_12 (by rw [c_12_2]; decide) (by rw [c_12_2]; decide) (by rw [c_12_2]; rfl) (by decide) ?_
          refine lv_aload_n hx hb d_C_told_76 rfl (lv_at hl 0 rfl) ?_
          refine lv_iload_n hx hb d_C_told_77 rfl (lv_at hl 1 rfl) ?_
          refine xro (As := [.int x]) (rest := []) Sx (ck_spaceOf l D a cI cII N K A hN hKK x) v_C_spaceOf ⟨rfl, rfl, Nat.le_of_ble_eq_true rfl, Nat.le_of_ble_eq_true rfl⟩ hK hP (ci := 0) (q0 := 0) rfl rfl rfl hl.1 rfl (Nat.le_of_ble_eq_true rfl) d_C_told_78 ⟨Nat.le_of_ble_eq_true rfl, Nat.le_of_ble_eq_true rfl⟩ (fun r hq => ?_)
          subst hq
          exact roRet hx hb hr rfl hlk (show k_spaceOf N K A x = k_told N K A x what from by rw [k_told, if_neg c_5, if_neg c_12_0, if_neg c_12_1, if_pos c_12_2]) d_C_told_81
        · skip
          by_cases c_12_3 : what = (3 : Int32)
          · refine lv_tableIn (off := (70 : Int)) (tgt := 82) hx hb d_C_told_12 (by rw [c_12_3]; decide) (by rw [c_12_3]; decide) (by rw [c_12_3]; rfl) (by decide) ?_
            refine lv_aload_n hx hb d_C_told_82 rfl (lv_at hl 0 rfl) ?_
            refine lv_iload_n hx hb d_C_told_83 rfl (lv_at hl 1 rfl) ?_
            refine xro (As := [.int x]) (rest := []) Sx (ck_countHeldBy l D a cI cII N K A hN hKK x) v_C_countHeldBy ⟨rfl, rfl, Nat.le_of_ble_eq_true rfl, Nat.le_of_ble_eq_true rfl⟩ hK hP (ci := 0) (q0 := 0) rfl rfl rfl hl.1 rfl (Nat.le_of_ble_eq_true rfl) d_C_told_84 ⟨Nat.le_of_ble_eq_true rfl, Nat.le_of_ble_eq_true rfl⟩ (fun r hq => ?_)
            subst hq
            exact roRet hx hb hr rfl hlk (show k_countHeldBy N K A x = k_told N K A x what from by rw [k_told, if_neg c_5, if_neg c_12_0, if_neg c_12_1, if_neg c_12_2, if_pos c_12_3]) d_C_told_87
          · skip
            by_cases c_12_4 : what = (4 : Int32)
            · refine lv_tableIn (off := (76 : Int)) (tgt := 88) hx hb d_C_told_12 (by rw [c_12_4]; decide) (by rw [c_12_4]; decide) (by rw [c_12_4]; rfl) (by decide) ?_
              refine lv_aload_n hx hb d_C_told_88 rfl (lv_at hl 0 rfl) ?_
              refine lv_iload_n hx hb d_C_told_89 rfl (lv_at hl 1 rfl) ?_
              refine xro (As := [.int x]) (rest := []) Sx (ck_countWithin l D a cI cII N K A hN hKK x) v_C_countWithin ⟨rfl, rfl, Nat.le_of_ble_eq_true rfl, Nat.le_of_ble_eq_true rfl⟩ hK hP (ci := 0) (q0 := 0) rfl rfl rfl hl.1 rfl (Nat.le_of_ble_eq_true rfl) d_C_told_90 ⟨Nat.le_of_ble_eq_true rfl, Nat.le_of_ble_eq_true rfl⟩ (fun r hq => ?_)
              subst hq
              exact roRet hx hb hr rfl hlk (show k_countWithin N K A x = k_told N K A x what from by rw [k_told, if_neg c_5, if_neg c_12_0, if_neg c_12_1, if_neg c_12_2, if_neg c_12_3, if_pos c_12_4]) d_C_told_93
            · skip
              by_cases c_12_5 : what = (5 : Int32)
              · refine lv_tableIn (off := (82 : Int)) (tgt := 94) hx hb d_C_told_12 (by rw [c_12_5]; decide) (by rw [c_12_5]; decide) (by rw [c_12_5]; rfl) (by decide) ?_
                refine lv_aload_n hx hb d_C_told_94 rfl (lv_at hl 0 rfl) ?_
                refine lv_iload_n hx hb d_C_told_95 rfl (lv_at hl 1 rfl) ?_
                refine lv_iconst (v := (0 : Int32)) hx hb d_C_told_96 (by decide) ?_
                refine xro (As := [.int x, .int (0 : Int32)]) (rest := []) Sx (ck_markOf l D a cI cII N K A hN hKK x (0 : Int32)) v_C_markOf ⟨rfl, rfl, Nat.le_of_ble_eq_true rfl, Nat.le_of_ble_eq_true rfl⟩ hK hP (ci := 0) (q0 := 0) rfl rfl rfl hl.1 rfl (Nat.le_of_ble_eq_true rfl) d_C_told_97 ⟨Nat.le_of_ble_eq_true rfl, Nat.le_of_ble_eq_true rfl⟩ (fun r hq => ?_)
                subst hq
                exact roRet hx hb hr rfl hlk (show k_markOf N K A x (0 : Int32) = k_told N K A x what from by rw [k_told, if_neg c_5, if_neg c_12_0, if_neg c_12_1, if_neg c_12_2, if_neg c_12_3, if_neg c_12_4, if_pos c_12_5]) d_C_told_100
              · skip
                by_cases c_12_6 : what = (6 : Int32)
                · refine lv_tableIn (off := (89 : Int)) (tgt := 101) hx hb d_C_told_12 (by rw [c_12_6]; decide) (by rw [c_12_6]; decide) (by rw [c_12_6]; rfl) (by decide) ?_
                  refine lv_aload_n hx hb d_C_told_101 rfl (lv_at hl 0 rfl) ?_
                  refine lv_iload_n hx hb d_C_told_102 rfl (lv_at hl 1 rfl) ?_
                  refine lv_iconst (v := (1 : Int32)) hx hb d_C_told_103 (by decide) ?_
                  refine xro (As := [.int x, .int (1 : Int32)]) (rest := []) Sx (ck_markOf l D a cI cII N K A hN hKK x (1 : Int32)) v_C_markOf ⟨rfl, rfl, Nat.le_of_ble_eq_true rfl, Nat.le_of_ble_eq_true rfl⟩ hK hP (ci := 0) (q0 := 0) rfl rfl rfl hl.1 rfl (Nat.le_of_ble_eq_true rfl) d_C_told_104 ⟨Nat.le_of_ble_eq_true rfl, Nat.le_of_ble_eq_true rfl⟩ (fun r hq => ?_)
                  subst hq
                  exact roRet hx hb hr rfl hlk (show k_markOf N K A x (1 : Int32) = k_told N K A x what from by rw [k_told, if_neg c_5, if_neg c_12_0, if_neg c_12_1, if_neg c_12_2, if_neg c_12_3, if_neg c_12_4, if_neg c_12_5, if_pos c_12_6]) d_C_told_107
                · skip
                  by_cases c_12_7 : what = (7 : Int32)
                  · refine lv_tableIn (off := (96 : Int)) (tgt := 108) hx hb d_C_told_12 (by rw [c_12_7]; decide) (by rw [c_12_7]; decide) (by rw [c_12_7]; rfl) (by decide) ?_
                    refine lv_aload_n hx hb d_C_told_108 rfl (lv_at hl 0 rfl) ?_
                    refine lv_iload_n hx hb d_C_told_109 rfl (lv_at hl 1 rfl) ?_
                    refine lv_iconst (v := (2 : Int32)) hx hb d_C_told_110 (by decide) ?_
                    refine xro (As := [.int x, .int (2 : Int32)]) (rest := []) Sx (ck_markOf l D a cI cII N K A hN hKK x (2 : Int32)) v_C_markOf ⟨rfl, rfl, Nat.le_of_ble_eq_true rfl, Nat.le_of_ble_eq_true rfl⟩ hK hP (ci := 0) (q0 := 0) rfl rfl rfl hl.1 rfl (Nat.le_of_ble_eq_true rfl) d_C_told_111 ⟨Nat.le_of_ble_eq_true rfl, Nat.le_of_ble_eq_true rfl⟩ (fun r hq => ?_)
                    subst hq
                    exact roRet hx hb hr rfl hlk (show k_markOf N K A x (2 : Int32) = k_told N K A x what from by rw [k_told, if_neg c_5, if_neg c_12_0, if_neg c_12_1, if_neg c_12_2, if_neg c_12_3, if_neg c_12_4, if_neg c_12_5, if_neg c_12_6, if_pos c_12_7]) d_C_told_114
                  · skip
                    by_cases c_12_8 : what = (8 : Int32)
                    · refine lv_tableIn (off := (103 : Int)) (tgt := 115) hx hb d_C_told_12 (by rw [c_12_8]; decide) (by rw [c_12_8]; decide) (by rw [c_12_8]; rfl) (by decide) ?_
                      refine lv_aload_n hx hb d_C_told_115 rfl (lv_at hl 0 rfl) ?_
                      refine lv_iload_n hx hb d_C_told_116 rfl (lv_at hl 1 rfl) ?_
                      refine lv_iconst (v := (3 : Int32)) hx hb d_C_told_117 (by decide) ?_
                      refine xro (As := [.int x, .int (3 : Int32)]) (rest := []) Sx (ck_markOf l D a cI cII N K A hN hKK x (3 : Int32)) v_C_markOf ⟨rfl, rfl, Nat.le_of_ble_eq_true rfl, Nat.le_of_ble_eq_true rfl⟩ hK hP (ci := 0) (q0 := 0) rfl rfl rfl hl.1 rfl (Nat.le_of_ble_eq_true rfl) d_C_told_118 ⟨Nat.le_of_ble_eq_true rfl, Nat.le_of_ble_eq_true rfl⟩ (fun r hq => ?_)
                      subst hq
                      exact roRet hx hb hr rfl hlk (show k_markOf N K A x (3 : Int32) = k_told N K A x what from by rw [k_told, if_neg c_5, if_neg c_12_0, if_neg c_12_1, if_neg c_12_2, if_neg c_12_3, if_neg c_12_4, if_neg c_12_5, if_neg c_12_6, if_neg c_12_7, if_pos c_12_8]) d_C_told_121
                    · skip
                      refine lv_tableOut (tgt := 122) hx hb d_C_told_12 (by have h0 := lv_neT (a := 0) c_12_0 (by decide); have h1 := lv_neT (a := 1) c_12_1 (by decide); have h2 := lv_neT (a := 2) c_12_2 (by decide); have h3 := lv_neT (a := 3) c_12_3 (by decide); have h4 := lv_neT (a := 4) c_12_4 (by decide); have h5 := lv_neT (a := 5) c_12_5 (by decide); have h6 := lv_neT (a := 6) c_12_6 (by decide); have h7 := lv_neT (a := 7) c_12_7 (by decide); have h8 := lv_neT (a := 8) c_12_8 (by decide); omega) (by decide) ?_
                      refine lv_bipush (v := (-3 : Int32)) hx hb d_C_told_122 (by decide) ?_
                      exact roRet hx hb hr rfl hlk (show (-3 : Int32) = k_told N K A x what from by rw [k_told, if_neg c_5, if_neg c_12_0, if_neg c_12_1, if_neg c_12_2, if_neg c_12_3, if_neg c_12_4, if_neg c_12_5, if_neg c_12_6, if_neg c_12_7, if_neg c_12_8]) d_C_told_124
  · refine lv_bipush (v := (-2 : Int32)) hx hb d_C_told_8 (by decide) ?_
    exact roRet hx hb hr rfl hlk (show (-2 : Int32) = k_told N K A x what from by rw [k_told, if_pos c_5]) d_C_told_10

def k_held_16 (N K : Nat) (A : Nat → Nat → Int32) (x ix : Int32) : Nat → Nat → Int32 → Int32
  | 0, i, v3 => (-1 : Int32)
  | k + 1, i, v3 => (if (A 1 (nI i).toNatClampNeg) = x then (if v3 = ix then nI i else k_held_16 N K A x ix k (i + 1) (v3 + 1)) else k_held_16 N K A x ix k (i + 1) v3)
theorem k_held_16_0 (N K : Nat) (A : Nat → Nat → Int32) (x ix : Int32) (i : Nat) (v3 : Int32) : k_held_16 N K A x ix 0 i v3 = (-1 : Int32) := rfl
theorem k_held_16_S (N K : Nat) (A : Nat → Nat → Int32) (x ix : Int32) (k i : Nat) (v3 : Int32) : k_held_16 N K A x ix (k + 1) i v3 = (if (A 1 (nI i).toNatClampNeg) = x then (if v3 = ix then nI i else k_held_16 N K A x ix k (i + 1) (v3 + 1)) else k_held_16 N K A x ix k (i + 1) v3) := rfl
set_option maxHeartbeats 4000000 in
set_option maxRecDepth 100000 in
theorem wk_held_16 (l : Launch) (D : va_G) (a : Nat → Nat) (cI cII : ClassId) (N K : Nat) (A : Nat → Nat → Int32) (hN : N ≤ 30) (hKK : K ≤ 10) (x ix : Int32) {p : Program} {e : Env} {s : State} {m : MethodId} {below : List Frame} {meth : Method} {c : Code} (Sx : CallFix p m c b_C_held 5 s ([.ref (a 0), .int x, .int ix] : List Value).toArray BW R_C) (hr : meth.sig.returnType = (some .int)) (hlk : meth.locks = false) (hP : va_P D classes (wC a cI cII (nI N) (nI K) A) s.heap) (hK : va_K D classes (tC cI cII) s) : ∀ (k i : Nat), i + k = N → ∀ (v3 : Int32) (ls : Array Slot), lv_has ls 5 [(0, .ref (a 0)), (1, .int x), (2, .int ix), (3, .int v3), (4, .int (nI i))] → W p l e ({ frames := 1, cells := 0, slots := 0, locals := 21 } : Room) s m ([.ref (a 0), .int x, .int ix] : List Value).toArray below meth c s.heap [] 0 0 (MQ below (vp_Si (fun r => r = k_held_16 N K A x ix k i v3)) ([.ref (a 0), .int x, .int ix] : List Value).toArray s 0 0 (fun _ => False)) (F0 m 16 ls []) := by
  obtain ⟨hx, hb, hml, hown, hts⟩ := id Sx
  intro k
  induction k with
  | zero =>
    intro i hi v3 ls hl
    refine lv_iload hx hb d_C_held_16 (lv_at hl 4 rfl) ?_
    refine lv_aload_n hx hb d_C_held_18 rfl (lv_at hl 0 rfl) ?_
    refine va_get (D := D) (ci := 0) (v := .int (nI N)) (C := R_C) (T := F_C) (N := 9) hx hb hts i_C hown hK hP 0 rfl rfl 0 (by decide) (hts _ fl_C_7) (fun _ h9 => h9) rfl d_C_held_19 ?_
    refine lv_icmp_ge (tgt := 53) hx hb d_C_held_22 (by decide) (fun c_22 => ?_) (fun c_22 => absurd (nI_le (a := N) (b := i) (by omega) (by omega)) c_22)
    refine lv_iconst (v := (-1 : Int32)) hx hb d_C_held_53 (by decide) ?_
    exact roRet hx hb hr rfl hlk (show (-1 : Int32) = k_held_16 N K A x ix 0 i v3 from by rw [k_held_16_0]) d_C_held_54
  | succ k ih =>
    intro i hi v3 ls hl
    refine lv_iload hx hb d_C_held_16 (lv_at hl 4 rfl) ?_
    refine lv_aload_n hx hb d_C_held_18 rfl (lv_at hl 0 rfl) ?_
    refine va_get (D := D) (ci := 0) (v := .int (nI N)) (C := R_C) (T := F_C) (N := 9) hx hb hts i_C hown hK hP 0 rfl rfl 0 (by decide) (hts _ fl_C_7) (fun _ h9 => h9) rfl d_C_held_19 ?_
    refine lv_icmp_ge (tgt := 53) hx hb d_C_held_22 (by decide) (fun c_22 => absurd c_22 (nI_ge (a := i) (b := N) (by omega) (by omega))) (fun c_22 => ?_)
    refine lv_aload_n hx hb d_C_held_25 rfl (lv_at hl 0 rfl) ?_
    refine va_get (D := D) (ci := 0) (v := .ref (a 2)) (C := R_C) (T := F_C) (N := 9) hx hb hts i_C hown hK hP 0 rfl rfl 2 (by decide) (hts _ fl_C_17) (fun _ h9 => h9) rfl d_C_held_26 ?_
    refine lv_iload hx hb d_C_held_29 (lv_at hl 4 rfl) ?_
    refine va_iald (n := 30) hx hb hK hP 2 0 rfl rfl (vp_in_nI (by omega) (by omega)) d_C_held_31 ?_
    refine lv_iload_n hx hb d_C_held_32 rfl (lv_at hl 1 rfl) ?_
    refine lv_icmp_ne (tgt := 47) hx hb d_C_held_33 (by decide) (fun c_33 => ?_) (fun c_33 => ?_)
    · refine lv_iinc (v := nI (i + 1)) (lv' := [(4, .int (nI (i + 1))), (0, .ref (a 0)), (1, .int x), (2, .int ix), (3, .int v3)]) hx hb d_C_held_47 hl (k := 4) rfl (nI_1 i) (by decide) rfl (fun ls hl => ?_)
      refine lv_goto (tgt := 16) hx hb d_C_held_50 (by decide) ?_
      have e_b : k_held_16 N K A x ix (k + 1) i v3 = k_held_16 N K A x ix k (i + 1) v3 := by rw [k_held_16_S, if_neg c_33]
      rw [e_b]
      exact ih (i + 1) (by omega) v3 ls (lv_sub hl [1, 2, 3, 4, 0] rfl)
    · refine lv_iload_n hx hb d_C_held_36 rfl (lv_at hl 3 rfl) ?_
      refine lv_iload_n hx hb d_C_held_37 rfl (lv_at hl 2 rfl) ?_
      refine lv_icmp_ne (tgt := 44) hx hb d_C_held_38 (by decide) (fun c_38 => ?_) (fun c_38 => ?_)
      · refine lv_iinc (v := v3 + 1) (lv' := [(3, .int (v3 + 1)), (0, .ref (a 0)), (1, .int x), (2, .int ix), (4, .int (nI i))]) hx hb d_C_held_44 hl (k := 3) rfl (rfl) (by decide) rfl (fun ls hl => ?_)
        refine lv_iinc (v := nI (i + 1)) (lv' := [(4, .int (nI (i + 1))), (3, .int (v3 + 1)), (0, .ref (a 0)), (1, .int x), (2, .int ix)]) hx hb d_C_held_47 hl (k := 4) rfl (nI_1 i) (by decide) rfl (fun ls hl => ?_)
        refine lv_goto (tgt := 16) hx hb d_C_held_50 (by decide) ?_
        have e_b : k_held_16 N K A x ix (k + 1) i v3 = k_held_16 N K A x ix k (i + 1) (v3 + 1) := by rw [k_held_16_S, if_pos c_33, if_neg c_38]
        rw [e_b]
        exact ih (i + 1) (by omega) (v3 + 1) ls (lv_sub hl [2, 3, 4, 1, 0] rfl)
      · refine lv_iload hx hb d_C_held_41 (lv_at hl 4 rfl) ?_
        exact roRet hx hb hr rfl hlk (show nI i = k_held_16 N K A x ix (k + 1) i v3 from by rw [k_held_16_S, if_pos c_33, if_pos c_38]) d_C_held_43
def k_held (N K : Nat) (A : Nat → Nat → Int32) (x ix : Int32) : Int32 := (if (k_isThing N K A x) = (0 : Int32) then (-2 : Int32) else k_held_16 N K A x ix N 0 (0 : Int32))
set_option maxHeartbeats 4000000 in
set_option maxRecDepth 100000 in
theorem ck_held (l : Launch) (D : va_G) (a : Nat → Nat) (cI cII : ClassId) (N K : Nat) (A : Nat → Nat → Int32) (hN : N ≤ 30) (hKK : K ≤ 10) (x ix : Int32) : Met l y_C_held (Cond.code y_C_held b_C_held 5 (some .int) :: BW) ({ frames := 1, cells := 0, slots := 0, locals := 21 } : Room) (PcR D (wC a cI cII (nI N) (nI K) A) (tC cI cII) [.ref (a 0), .int x, .int ix]) (vp_Si (fun r => r = k_held N K A x ix)) 0 0 (fun _ => False) := by
  refine roStart (by decide) rfl (Nat.le_of_ble_eq_true rfl) (fun p e s m below meth c Sx hr hlk hP hK ls hl => ?_)
  obtain ⟨hx, hb, hml, hown, hts⟩ := id Sx
  have hl : lv_has ls 5 [(0, .ref (a 0)), (1, .int x), (2, .int ix)] := hl
  refine lv_aload_n hx hb d_C_held_0 rfl (lv_at hl 0 rfl) ?_
  refine lv_iload_n hx hb d_C_held_1 rfl (lv_at hl 1 rfl) ?_
  refine xro (As := [.int x]) (rest := []) Sx (ck_isThing l D a cI cII N K A hN hKK x) v_C_isThing ⟨rfl, rfl, Nat.le_of_ble_eq_true rfl, Nat.le_of_ble_eq_true rfl⟩ hK hP (ci := 0) (q0 := 0) rfl rfl rfl hl.1 rfl (Nat.le_of_ble_eq_true rfl) d_C_held_2 ⟨Nat.le_of_ble_eq_true rfl, Nat.le_of_ble_eq_true rfl⟩ (fun r hq => ?_)
  subst hq
  refine lv_if_ne (tgt := 11) hx hb d_C_held_5 (by decide) (fun c_5 => ?_) (fun c_5 => ?_)
  · refine lv_iconst (v := (0 : Int32)) hx hb d_C_held_11 (by decide) ?_
    refine lv_istore_n (lv' := [(3, .int (0 : Int32)), (0, .ref (a 0)), (1, .int x), (2, .int ix)]) hx hb d_C_held_12 rfl hl (by decide) rfl (fun ls hl => ?_)
    refine lv_iconst (v := (0 : Int32)) hx hb d_C_held_13 (by decide) ?_
    refine lv_istore (lv' := [(4, .int (0 : Int32)), (3, .int (0 : Int32)), (0, .ref (a 0)), (1, .int x), (2, .int ix)]) hx hb d_C_held_14 hl (by decide) rfl (fun ls hl => ?_)
    have e_16 : k_held N K A x ix = k_held_16 N K A x ix N 0 (0 : Int32) := by rw [k_held, if_neg c_5]
    rw [e_16]
    exact wk_held_16 l D a cI cII N K A hN hKK x ix Sx hr hlk hP hK N 0 (by omega) (0 : Int32) ls (lv_sub hl [2, 3, 4, 1, 0] rfl)
  · refine lv_bipush (v := (-2 : Int32)) hx hb d_C_held_8 (by decide) ?_
    exact roRet hx hb hr rfl hlk (show (-2 : Int32) = k_held N K A x ix from by rw [k_held, if_pos c_5]) d_C_held_10

def k_barrier (N K : Nat) (A : Nat → Nat → Int32) (who x : Int32) : Int32 := (if (k_isPerson N K A who) = (0 : Int32) then (-2 : Int32) else (if (k_isThing N K A x) = (0 : Int32) then (-2 : Int32) else (if who = x then (-1 : Int32) else k_firstBarrier N K A who x)))
set_option maxHeartbeats 4000000 in
set_option maxRecDepth 100000 in
theorem ck_barrier (l : Launch) (D : va_G) (a : Nat → Nat) (cI cII : ClassId) (N K : Nat) (A : Nat → Nat → Int32) (hN : N ≤ 30) (hKK : K ≤ 10) (who x : Int32) : Met l y_C_barrier (Cond.code y_C_barrier b_C_barrier 3 (some .int) :: BW) ({ frames := 5, cells := 0, slots := 0, locals := 114 } : Room) (PcR D (wC a cI cII (nI N) (nI K) A) (tC cI cII) [.ref (a 0), .int who, .int x]) (vp_Si (fun r => r = k_barrier N K A who x)) 0 0 (fun _ => False) := by
  refine roStart (by decide) rfl (Nat.le_of_ble_eq_true rfl) (fun p e s m below meth c Sx hr hlk hP hK ls hl => ?_)
  obtain ⟨hx, hb, hml, hown, hts⟩ := id Sx
  have hl : lv_has ls 3 [(0, .ref (a 0)), (1, .int who), (2, .int x)] := hl
  refine lv_aload_n hx hb d_C_barrier_0 rfl (lv_at hl 0 rfl) ?_
  refine lv_iload_n hx hb d_C_barrier_1 rfl (lv_at hl 1 rfl) ?_
  refine xro (As := [.int who]) (rest := []) Sx (ck_isPerson l D a cI cII N K A hN hKK who) v_C_isPerson ⟨rfl, rfl, Nat.le_of_ble_eq_true rfl, Nat.le_of_ble_eq_true rfl⟩ hK hP (ci := 0) (q0 := 0) rfl rfl rfl hl.1 rfl (Nat.le_of_ble_eq_true rfl) d_C_barrier_2 ⟨Nat.le_of_ble_eq_true rfl, Nat.le_of_ble_eq_true rfl⟩ (fun r hq => ?_)
  subst hq
  refine lv_if_eq (tgt := 16) hx hb d_C_barrier_5 (by decide) (fun c_5 => ?_) (fun c_5 => ?_)
  · refine lv_bipush (v := (-2 : Int32)) hx hb d_C_barrier_16 (by decide) ?_
    exact roRet hx hb hr rfl hlk (show (-2 : Int32) = k_barrier N K A who x from by rw [k_barrier, if_pos c_5]) d_C_barrier_18
  · refine lv_aload_n hx hb d_C_barrier_8 rfl (lv_at hl 0 rfl) ?_
    refine lv_iload_n hx hb d_C_barrier_9 rfl (lv_at hl 2 rfl) ?_
    refine xro (As := [.int x]) (rest := []) Sx (ck_isThing l D a cI cII N K A hN hKK x) v_C_isThing ⟨rfl, rfl, Nat.le_of_ble_eq_true rfl, Nat.le_of_ble_eq_true rfl⟩ hK hP (ci := 0) (q0 := 0) rfl rfl rfl hl.1 rfl (Nat.le_of_ble_eq_true rfl) d_C_barrier_10 ⟨Nat.le_of_ble_eq_true rfl, Nat.le_of_ble_eq_true rfl⟩ (fun r hq => ?_)
    subst hq
    refine lv_if_ne (tgt := 19) hx hb d_C_barrier_13 (by decide) (fun c_13 => ?_) (fun c_13 => ?_)
    · refine lv_iload_n hx hb d_C_barrier_19 rfl (lv_at hl 1 rfl) ?_
      refine lv_iload_n hx hb d_C_barrier_20 rfl (lv_at hl 2 rfl) ?_
      refine lv_icmp_ne (tgt := 28) hx hb d_C_barrier_21 (by decide) (fun c_21 => ?_) (fun c_21 => ?_)
      · refine lv_aload_n hx hb d_C_barrier_28 rfl (lv_at hl 0 rfl) ?_
        refine lv_iload_n hx hb d_C_barrier_29 rfl (lv_at hl 1 rfl) ?_
        refine lv_iload_n hx hb d_C_barrier_30 rfl (lv_at hl 2 rfl) ?_
        refine xro (As := [.int who, .int x]) (rest := []) Sx (ck_firstBarrier l D a cI cII N K A hN hKK who x) v_C_firstBarrier ⟨rfl, rfl, Nat.le_of_ble_eq_true rfl, Nat.le_of_ble_eq_true rfl⟩ hK hP (ci := 0) (q0 := 0) rfl rfl rfl hl.1 rfl (Nat.le_of_ble_eq_true rfl) d_C_barrier_31 ⟨Nat.le_of_ble_eq_true rfl, Nat.le_of_ble_eq_true rfl⟩ (fun r hq => ?_)
        subst hq
        exact roRet hx hb hr rfl hlk (show k_firstBarrier N K A who x = k_barrier N K A who x from by rw [k_barrier, if_neg c_5, if_neg c_13, if_neg c_21]) d_C_barrier_34
      · refine lv_iconst (v := (-1 : Int32)) hx hb d_C_barrier_24 (by decide) ?_
        refine lv_goto (tgt := 34) hx hb d_C_barrier_25 (by decide) ?_
        exact roRet hx hb hr rfl hlk (show (-1 : Int32) = k_barrier N K A who x from by rw [k_barrier, if_neg c_5, if_neg c_13, if_pos c_21]) d_C_barrier_34
    · refine lv_bipush (v := (-2 : Int32)) hx hb d_C_barrier_16 (by decide) ?_
      exact roRet hx hb hr rfl hlk (show (-2 : Int32) = k_barrier N K A who x from by rw [k_barrier, if_neg c_5, if_pos c_13]) d_C_barrier_18
