def k_door_71 (N K : Nat) (u3 : Int32) : Nat → Nat → (Nat → Nat → Int32) → Int32 × Nat × Nat × (Nat → Nat → Int32)
  | 0, i, A1 => (u3, (N, K, A1))
  | k + 1, i, A1 => k_door_71 N K u3 k (i + 1) (sU A1 (8 + (nI i).toNatClampNeg) u3.toNatClampNeg (0 : Int32))
theorem k_door_71_0 (N K : Nat) (u3 : Int32) (i : Nat) (A1 : (Nat → Nat → Int32)) : k_door_71 N K u3 0 i A1 = (u3, (N, K, A1)) := rfl
theorem k_door_71_S (N K : Nat) (u3 : Int32) (k i : Nat) (A1 : (Nat → Nat → Int32)) : k_door_71 N K u3 (k + 1) i A1 = k_door_71 N K u3 k (i + 1) (sU A1 (8 + (nI i).toNatClampNeg) u3.toNatClampNeg (0 : Int32)) := rfl
set_option maxHeartbeats 4000000 in
set_option maxRecDepth 100000 in
theorem wk_door_71 (l : Launch) (D : va_G) (a : Nat → Nat) (cI cII : ClassId) (N K : Nat) (A : Nat → Nat → Int32) (hN : N ≤ 30) (hKK : K ≤ 10) (Z : Nat → Prop) (x y u3 : Int32) (hu3 : vp_in u3 10) {p : Program} {e : Env} {s : State} {m : MethodId} {below : List Frame} {meth : Method} {c : Code} (Sx : CallFix p m c b_C_door 5 s ([.ref (a 0), .int x, .int y] : List Value).toArray BW R_C) (hr : meth.sig.returnType = (some .int)) (hlk : meth.locks = false) (hD : va_D Z (wC a cI cII (nI N) (nI K) A)) (hK : va_K D classes (tC cI cII) s) : ∀ (k i : Nat), i + k = 2 → ∀ (A1 : (Nat → Nat → Int32)) (H : Heap) (locs : List Loc) (ls : Array Slot), va_P D classes (wC a cI cII (nI N) (nI K) A1) H → va_S Z s.heap H locs → lv_has ls 5 [(0, .ref (a 0)), (1, .int x), (2, .int y), (3, .int u3), (4, .int (nI i))] → W p l e ({ frames := 2, cells := 0, slots := 0, locals := 42 } : Room) s m ([.ref (a 0), .int x, .int y] : List Value).toArray below meth c H locs 0 0 (MQ below (va_Qi (fun r u => r = (k_door_71 N K u3 k i A1).1 ∧ u = (k_door_71 N K u3 k i A1).2) (atW D (fun u => wC a cI cII (nI u.1) (nI u.2.1) u.2.2) (tC cI cII)) Z) ([.ref (a 0), .int x, .int y] : List Value).toArray s 0 0 Z) (F0 m 71 ls []) := by
  obtain ⟨hx, hb, hml, hown, hts⟩ := id Sx
  intro k
  induction k with
  | zero =>
    intro i hi A1 H locs ls hP hS hl
    refine lv_iload hx hb d_C_door_71 (lv_at hl 4 rfl) ?_
    refine lv_iconst (v := (2 : Int32)) hx hb d_C_door_73 (by decide) ?_
    refine lv_icmp_ge (tgt := 93) hx hb d_C_door_74 (by decide) (fun c_74 => ?_) (fun c_74 => absurd (nI_le (a := 2) (b := i) (by omega) (by omega)) c_74)
    refine lv_iload_n hx hb d_C_door_93 rfl (lv_at hl 3 rfl) ?_
    exact wRet (u := (N, K, A1)) hx hb hr rfl hlk (show u3 = (k_door_71 N K u3 0 i A1).1 ∧ (N, K, A1) = (k_door_71 N K u3 0 i A1).2 from by rw [k_door_71_0]; exact ⟨rfl, rfl⟩) hP hK hS d_C_door_94
  | succ k ih =>
    intro i hi A1 H locs ls hP hS hl
    refine lv_iload hx hb d_C_door_71 (lv_at hl 4 rfl) ?_
    refine lv_iconst (v := (2 : Int32)) hx hb d_C_door_73 (by decide) ?_
    refine lv_icmp_ge (tgt := 93) hx hb d_C_door_74 (by decide) (fun c_74 => absurd c_74 (nI_ge (a := i) (b := 2) (by omega) (by omega))) (fun c_74 => ?_)
    refine lv_aload_n hx hb d_C_door_77 rfl (lv_at hl 0 rfl) ?_
    refine va_get (D := D) (ci := 0) (v := .ref (a 10)) (C := R_C) (T := F_C) (N := 9) hx hb hts i_C hown hK hP 0 rfl rfl 7 (by decide) (hts _ fl_C_34) (fun _ h9 => h9) rfl d_C_door_78 ?_
    refine lv_iload hx hb d_C_door_81 (lv_at hl 4 rfl) ?_
    refine x_ald2 hx hb hK hP (vp_in_nI (by omega) (by omega)) d_C_door_83 ?_
    refine lv_iload_n hx hb d_C_door_84 rfl (lv_at hl 3 rfl) ?_
    refine lv_iconst (v := (0 : Int32)) hx hb d_C_door_85 (by decide) ?_
    refine va_iast (n := 10) hx hb hK hP (wC_D hD) hS (11 + (nI i).toNatClampNeg) 0 (wC_row2 (vp_lt (vp_in_nI (by omega) (by omega)))) rfl (hu3) d_C_door_86 (fun H locs hP _ hS => ?_)
    have hP : va_P D classes (wC a cI cII (nI N) (nI K) (sU A1 (8 + (nI i).toNatClampNeg) u3.toNatClampNeg (0 : Int32))) H := by have h9 := hP; rw [wC_set2 (j := (nI i).toNatClampNeg) (vp_lt (vp_in_nI (by omega) (by omega)))] at h9; exact h9
    refine lv_iinc (v := nI (i + 1)) (lv' := [(4, .int (nI (i + 1))), (0, .ref (a 0)), (1, .int x), (2, .int y), (3, .int u3)]) hx hb d_C_door_87 hl (k := 4) rfl (nI_1 i) (by decide) rfl (fun ls hl => ?_)
    refine lv_goto (tgt := 71) hx hb d_C_door_90 (by decide) ?_
    have e_b : k_door_71 N K u3 (k + 1) i A1 = k_door_71 N K u3 k (i + 1) (sU A1 (8 + (nI i).toNatClampNeg) u3.toNatClampNeg (0 : Int32)) := by rw [k_door_71_S]
    rw [e_b]
    exact ih (i + 1) (by omega) (sU A1 (8 + (nI i).toNatClampNeg) u3.toNatClampNeg (0 : Int32)) _ _ ls hP hS (lv_sub hl [1, 2, 3, 4, 0] rfl)
def k_door (N K : Nat) (A : Nat → Nat → Int32) (x y : Int32) : Int32 × Nat × Nat × (Nat → Nat → Int32) := (if (k_sortOf N K A x) = (0 : Int32) then (if (k_sortOf N K A y) = (0 : Int32) then (if x = y then ((-3 : Int32), (N, K, A)) else (if (nI K) < (10 : Int32) then k_door_71 N (K + 1) (nI K) 2 0 (sU (sU A 6 (nI K).toNatClampNeg x) 7 (nI K).toNatClampNeg y) else ((-7 : Int32), (N, K, A)))) else ((-2 : Int32), (N, K, A))) else ((-2 : Int32), (N, K, A)))
set_option maxHeartbeats 4000000 in
set_option maxRecDepth 100000 in
theorem ck_door (l : Launch) (D : va_G) (a : Nat → Nat) (cI cII : ClassId) (N K : Nat) (A : Nat → Nat → Int32) (hN : N ≤ 30) (hKK : K ≤ 10) (Z : Nat → Prop) (x y : Int32) : Met l y_C_door (Cond.code y_C_door b_C_door 5 (some .int) :: BW) ({ frames := 2, cells := 0, slots := 0, locals := 42 } : Room) (PcW D Z (wC a cI cII (nI N) (nI K) A) (tC cI cII) [.ref (a 0), .int x, .int y]) (va_Qi (fun r u => r = (k_door N K A x y).1 ∧ u = (k_door N K A x y).2) (atW D (fun u => wC a cI cII (nI u.1) (nI u.2.1) u.2.2) (tC cI cII)) Z) 0 0 Z := by
  refine wStart (by decide) rfl (Nat.le_of_ble_eq_true rfl) (fun p e s m below meth c Sx hr hlk hP hK hD hS ls hl => ?_)
  obtain ⟨hx, hb, hml, hown, hts⟩ := id Sx
  have hl : lv_has ls 5 [(0, .ref (a 0)), (1, .int x), (2, .int y)] := hl
  refine lv_aload_n hx hb d_C_door_0 rfl (lv_at hl 0 rfl) ?_
  refine lv_iload_n hx hb d_C_door_1 rfl (lv_at hl 1 rfl) ?_
  refine xro (As := [.int x]) (rest := []) Sx (ck_sortOf l D a cI cII N K A hN hKK x) v_C_sortOf ⟨rfl, rfl, Nat.le_of_ble_eq_true rfl, Nat.le_of_ble_eq_true rfl⟩ hK hP (ci := 0) (q0 := 0) rfl rfl rfl hl.1 rfl (Nat.le_of_ble_eq_true rfl) d_C_door_2 ⟨Nat.le_of_ble_eq_true rfl, Nat.le_of_ble_eq_true rfl⟩ (fun r hq => ?_)
  subst hq
  refine lv_if_ne (tgt := 16) hx hb d_C_door_5 (by decide) (fun c_5 => ?_) (fun c_5 => ?_)
  · refine lv_bipush (v := (-2 : Int32)) hx hb d_C_door_16 (by decide) ?_
    exact wRet (u := (N, K, A)) hx hb hr rfl hlk (show (-2 : Int32) = (k_door N K A x y).1 ∧ (N, K, A) = (k_door N K A x y).2 from by rw [k_door, if_neg c_5]; exact ⟨rfl, rfl⟩) hP hK hS d_C_door_18
  · refine lv_aload_n hx hb d_C_door_8 rfl (lv_at hl 0 rfl) ?_
    refine lv_iload_n hx hb d_C_door_9 rfl (lv_at hl 2 rfl) ?_
    refine xro (As := [.int y]) (rest := []) Sx (ck_sortOf l D a cI cII N K A hN hKK y) v_C_sortOf ⟨rfl, rfl, Nat.le_of_ble_eq_true rfl, Nat.le_of_ble_eq_true rfl⟩ hK hP (ci := 0) (q0 := 0) rfl rfl rfl hl.1 rfl (Nat.le_of_ble_eq_true rfl) d_C_door_10 ⟨Nat.le_of_ble_eq_true rfl, Nat.le_of_ble_eq_true rfl⟩ (fun r hq => ?_)
    subst hq
    refine lv_if_eq (tgt := 19) hx hb d_C_door_13 (by decide) (fun c_13 => ?_) (fun c_13 => ?_)
    · refine lv_iload_n hx hb d_C_door_19 rfl (lv_at hl 1 rfl) ?_
      refine lv_iload_n hx hb d_C_door_20 rfl (lv_at hl 2 rfl) ?_
      refine lv_icmp_ne (tgt := 27) hx hb d_C_door_21 (by decide) (fun c_21 => ?_) (fun c_21 => ?_)
      · refine lv_aload_n hx hb d_C_door_27 rfl (lv_at hl 0 rfl) ?_
        refine va_get (D := D) (ci := 0) (v := .int (nI K)) (C := R_C) (T := F_C) (N := 9) hx hb hts i_C hown hK hP 0 rfl rfl 4 (by decide) (hts _ fl_C_25) (fun _ h9 => h9) rfl d_C_door_28 ?_
        refine lv_bipush (v := (10 : Int32)) hx hb d_C_door_31 (by decide) ?_
        refine lv_icmp_lt (tgt := 39) hx hb d_C_door_33 (by decide) (fun c_33 => ?_) (fun c_33 => ?_)
        · refine lv_aload_n hx hb d_C_door_39 rfl (lv_at hl 0 rfl) ?_
          refine va_get (D := D) (ci := 0) (v := .int (nI K)) (C := R_C) (T := F_C) (N := 9) hx hb hts i_C hown hK hP 0 rfl rfl 4 (by decide) (hts _ fl_C_25) (fun _ h9 => h9) rfl d_C_door_40 ?_
          refine lv_istore_n (lv' := [(3, .int (nI K)), (0, .ref (a 0)), (1, .int x), (2, .int y)]) hx hb d_C_door_43 rfl hl (by decide) rfl (fun ls hl => ?_)
          refine lv_aload_n hx hb d_C_door_44 rfl (lv_at hl 1 rfl) ?_
          refine lv_dup hx hb d_C_door_45 rfl ?_
          refine va_get (D := D) (ci := 0) (v := .int (nI K)) (C := R_C) (T := F_C) (N := 9) hx hb hts i_C hown hK hP 0 rfl rfl 4 (by decide) (hts _ fl_C_25) (fun _ h9 => h9) rfl d_C_door_46 ?_
          refine lv_iconst (v := (1 : Int32)) hx hb d_C_door_49 (by decide) ?_
          refine x_iadd1 hx hb d_C_door_50 ?_
          refine va_put (D := D) (ci := 0) (v := .int (nI (K + 1))) (ty := .int) (C := R_C) (T := F_C) (N := 9) hx hb hts i_C t_C t_C_ok n_C hown hK hP (wC_D hD) hS 0 rfl rfl 4 (by decide) (hts _ fl_C_25) (fun _ h9 => h9) rfl (by decide +kernel) rfl rfl (Nat.le_of_ble_eq_true rfl) d_C_door_51 (fun H locs hP _ hS => ?_)
          have hP : va_P D classes (wC a cI cII (nI N) (nI (K + 1)) A) H := hP
          refine lv_aload_n hx hb d_C_door_54 rfl (lv_at hl 1 rfl) ?_
          refine va_get (D := D) (ci := 0) (v := .ref (a 8)) (C := R_C) (T := F_C) (N := 9) hx hb hts i_C hown hK hP 0 rfl rfl 5 (by decide) (hts _ fl_C_28) (fun _ h9 => h9) rfl d_C_door_55 ?_
          refine lv_iload_n hx hb d_C_door_58 rfl (lv_at hl 0 rfl) ?_
          refine lv_iload_n hx hb d_C_door_59 rfl (lv_at hl 2 rfl) ?_
          refine va_iast (n := 10) hx hb hK hP (wC_D hD) hS 8 0 rfl rfl (vp_in_nI ((nI_ltI (a := K) (b := 10) (by omega) (by omega)).mp c_33) (by omega)) d_C_door_60 (fun H locs hP _ hS => ?_)
          have hP : va_P D classes (wC a cI cII (nI N) (nI (K + 1)) (sU A 6 (nI K).toNatClampNeg x)) H := hP
          refine lv_aload_n hx hb d_C_door_61 rfl (lv_at hl 1 rfl) ?_
          refine va_get (D := D) (ci := 0) (v := .ref (a 9)) (C := R_C) (T := F_C) (N := 9) hx hb hts i_C hown hK hP 0 rfl rfl 6 (by decide) (hts _ fl_C_31) (fun _ h9 => h9) rfl d_C_door_62 ?_
          refine lv_iload_n hx hb d_C_door_65 rfl (lv_at hl 0 rfl) ?_
          refine lv_iload_n hx hb d_C_door_66 rfl (lv_at hl 3 rfl) ?_
          refine va_iast (n := 10) hx hb hK hP (wC_D hD) hS 9 0 rfl rfl (vp_in_nI ((nI_ltI (a := K) (b := 10) (by omega) (by omega)).mp c_33) (by omega)) d_C_door_67 (fun H locs hP _ hS => ?_)
          have hP : va_P D classes (wC a cI cII (nI N) (nI (K + 1)) (sU (sU A 6 (nI K).toNatClampNeg x) 7 (nI K).toNatClampNeg y)) H := hP
          refine lv_iconst (v := (0 : Int32)) hx hb d_C_door_68 (by decide) ?_
          refine lv_istore (lv' := [(4, .int (0 : Int32)), (3, .int (nI K)), (0, .ref (a 0)), (1, .int x), (2, .int y)]) hx hb d_C_door_69 hl (by decide) rfl (fun ls hl => ?_)
          have e_71 : k_door N K A x y = k_door_71 N (K + 1) (nI K) 2 0 (sU (sU A 6 (nI K).toNatClampNeg x) 7 (nI K).toNatClampNeg y) := by rw [k_door, if_pos c_5, if_pos c_13, if_neg c_21, if_pos c_33]
          rw [e_71]
          exact wk_door_71 l D a cI cII N (K + 1) (sU (sU A 6 (nI K).toNatClampNeg x) 7 (nI K).toNatClampNeg y) hN ((nI_ltI (a := K) (b := 10) (by omega) (by omega)).mp c_33) Z x y (nI K) (vp_in_nI ((nI_ltI (a := K) (b := 10) (by omega) (by omega)).mp c_33) (by omega)) Sx hr hlk (wC_D hD) hK 2 0 (by omega) (sU (sU A 6 (nI K).toNatClampNeg x) 7 (nI K).toNatClampNeg y) _ _ ls hP hS (lv_sub hl [2, 3, 4, 1, 0] rfl)
        · refine lv_bipush (v := (-7 : Int32)) hx hb d_C_door_36 (by decide) ?_
          exact wRet (u := (N, K, A)) hx hb hr rfl hlk (show (-7 : Int32) = (k_door N K A x y).1 ∧ (N, K, A) = (k_door N K A x y).2 from by rw [k_door, if_pos c_5, if_pos c_13, if_neg c_21, if_neg c_33]; exact ⟨rfl, rfl⟩) hP hK hS d_C_door_38
      · refine lv_bipush (v := (-3 : Int32)) hx hb d_C_door_24 (by decide) ?_
        exact wRet (u := (N, K, A)) hx hb hr rfl hlk (show (-3 : Int32) = (k_door N K A x y).1 ∧ (N, K, A) = (k_door N K A x y).2 from by rw [k_door, if_pos c_5, if_pos c_13, if_pos c_21]; exact ⟨rfl, rfl⟩) hP hK hS d_C_door_26
    · refine lv_bipush (v := (-2 : Int32)) hx hb d_C_door_16 (by decide) ?_
      exact wRet (u := (N, K, A)) hx hb hr rfl hlk (show (-2 : Int32) = (k_door N K A x y).1 ∧ (N, K, A) = (k_door N K A x y).2 from by rw [k_door, if_pos c_5, if_neg c_13]; exact ⟨rfl, rfl⟩) hP hK hS d_C_door_18

def k_turn (N K : Nat) (A : Nat → Nat → Int32) (dr what v : Int32) : Int32 × (Nat → Nat → Int32) := (if (k_isDoor N K A dr) = (0 : Int32) then ((-2 : Int32), A) else (if what < (0 : Int32) then ((-3 : Int32), A) else (if (2 : Int32) ≤ what then ((-3 : Int32), A) else (if v < (0 : Int32) then ((-3 : Int32), A) else (if v ≤ (1 : Int32) then (A (8 + what.toNatClampNeg) dr.toNatClampNeg, sU A (8 + what.toNatClampNeg) dr.toNatClampNeg v) else ((-3 : Int32), A))))))
set_option maxHeartbeats 4000000 in
set_option maxRecDepth 100000 in
theorem ck_turn (l : Launch) (D : va_G) (a : Nat → Nat) (cI cII : ClassId) (N K : Nat) (A : Nat → Nat → Int32) (hN : N ≤ 30) (hKK : K ≤ 10) (Z : Nat → Prop) (dr what v : Int32) : Met l y_C_turn (Cond.code y_C_turn b_C_turn 5 (some .int) :: BW) ({ frames := 1, cells := 0, slots := 0, locals := 21 } : Room) (PcW D Z (wC a cI cII (nI N) (nI K) A) (tC cI cII) [.ref (a 0), .int dr, .int what, .int v]) (va_Qi (fun r u => r = (k_turn N K A dr what v).1 ∧ u = (k_turn N K A dr what v).2) (atW D (fun u => wC a cI cII (nI N) (nI K) u) (tC cI cII)) Z) 0 0 Z := by
  refine wStart (by decide) rfl (Nat.le_of_ble_eq_true rfl) (fun p e s m below meth c Sx hr hlk hP hK hD hS ls hl => ?_)
  obtain ⟨hx, hb, hml, hown, hts⟩ := id Sx
  have hl : lv_has ls 5 [(0, .ref (a 0)), (1, .int dr), (2, .int what), (3, .int v)] := hl
  refine lv_aload_n hx hb d_C_turn_0 rfl (lv_at hl 0 rfl) ?_
  refine lv_iload_n hx hb d_C_turn_1 rfl (lv_at hl 1 rfl) ?_
  refine xro (As := [.int dr]) (rest := []) Sx (ck_isDoor l D a cI cII N K A hN hKK dr) v_C_isDoor ⟨rfl, rfl, Nat.le_of_ble_eq_true rfl, Nat.le_of_ble_eq_true rfl⟩ hK hP (ci := 0) (q0 := 0) rfl rfl rfl hl.1 rfl (Nat.le_of_ble_eq_true rfl) d_C_turn_2 ⟨Nat.le_of_ble_eq_true rfl, Nat.le_of_ble_eq_true rfl⟩ (fun r hq => ?_)
  subst hq
  refine lv_if_ne (tgt := 11) hx hb d_C_turn_5 (by decide) (fun c_5 => ?_) (fun c_5 => ?_)
  · refine lv_iload_n hx hb d_C_turn_11 rfl (lv_at hl 2 rfl) ?_
    refine lv_if_lt (tgt := 29) hx hb d_C_turn_12 (by decide) (fun c_12 => ?_) (fun c_12 => ?_)
    · refine lv_bipush (v := (-3 : Int32)) hx hb d_C_turn_29 (by decide) ?_
      exact wRet (u := A) hx hb hr rfl hlk (show (-3 : Int32) = (k_turn N K A dr what v).1 ∧ A = (k_turn N K A dr what v).2 from by rw [k_turn, if_neg c_5, if_pos c_12]; exact ⟨rfl, rfl⟩) hP hK hS d_C_turn_31
    · refine lv_iload_n hx hb d_C_turn_15 rfl (lv_at hl 2 rfl) ?_
      refine lv_iconst (v := (2 : Int32)) hx hb d_C_turn_16 (by decide) ?_
      refine lv_icmp_ge (tgt := 29) hx hb d_C_turn_17 (by decide) (fun c_17 => ?_) (fun c_17 => ?_)
      · refine lv_bipush (v := (-3 : Int32)) hx hb d_C_turn_29 (by decide) ?_
        exact wRet (u := A) hx hb hr rfl hlk (show (-3 : Int32) = (k_turn N K A dr what v).1 ∧ A = (k_turn N K A dr what v).2 from by rw [k_turn, if_neg c_5, if_neg c_12, if_pos c_17]; exact ⟨rfl, rfl⟩) hP hK hS d_C_turn_31
      · refine lv_iload_n hx hb d_C_turn_20 rfl (lv_at hl 3 rfl) ?_
        refine lv_if_lt (tgt := 29) hx hb d_C_turn_21 (by decide) (fun c_21 => ?_) (fun c_21 => ?_)
        · refine lv_bipush (v := (-3 : Int32)) hx hb d_C_turn_29 (by decide) ?_
          exact wRet (u := A) hx hb hr rfl hlk (show (-3 : Int32) = (k_turn N K A dr what v).1 ∧ A = (k_turn N K A dr what v).2 from by rw [k_turn, if_neg c_5, if_neg c_12, if_neg c_17, if_pos c_21]; exact ⟨rfl, rfl⟩) hP hK hS d_C_turn_31
        · refine lv_iload_n hx hb d_C_turn_24 rfl (lv_at hl 3 rfl) ?_
          refine lv_iconst (v := (1 : Int32)) hx hb d_C_turn_25 (by decide) ?_
          refine lv_icmp_le (tgt := 32) hx hb d_C_turn_26 (by decide) (fun c_26 => ?_) (fun c_26 => ?_)
          · refine lv_aload_n hx hb d_C_turn_32 rfl (lv_at hl 0 rfl) ?_
            refine va_get (D := D) (ci := 0) (v := .ref (a 10)) (C := R_C) (T := F_C) (N := 9) hx hb hts i_C hown hK hP 0 rfl rfl 7 (by decide) (hts _ fl_C_34) (fun _ h9 => h9) rfl d_C_turn_33 ?_
            refine lv_iload_n hx hb d_C_turn_36 rfl (lv_at hl 2 rfl) ?_
            refine x_ald2 hx hb hK hP (in2 c_12 c_17) d_C_turn_37 ?_
            refine lv_iload_n hx hb d_C_turn_38 rfl (lv_at hl 1 rfl) ?_
            refine va_iald (n := 10) hx hb hK hP (11 + what.toNatClampNeg) 0 (wC_row2 (vp_lt (in2 c_12 c_17))) rfl (in_isDoor hKK c_5) d_C_turn_39 ?_
            refine lv_istore (lv' := [(4, .int (A (8 + what.toNatClampNeg) dr.toNatClampNeg)), (0, .ref (a 0)), (1, .int dr), (2, .int what), (3, .int v)]) hx hb d_C_turn_40 hl (by decide) rfl (fun ls hl => ?_)
            refine lv_aload_n hx hb d_C_turn_42 rfl (lv_at hl 1 rfl) ?_
            refine va_get (D := D) (ci := 0) (v := .ref (a 10)) (C := R_C) (T := F_C) (N := 9) hx hb hts i_C hown hK hP 0 rfl rfl 7 (by decide) (hts _ fl_C_34) (fun _ h9 => h9) rfl d_C_turn_43 ?_
            refine lv_iload_n hx hb d_C_turn_46 rfl (lv_at hl 3 rfl) ?_
            refine x_ald2 hx hb hK hP (in2 c_12 c_17) d_C_turn_47 ?_
            refine lv_iload_n hx hb d_C_turn_48 rfl (lv_at hl 2 rfl) ?_
            refine lv_iload_n hx hb d_C_turn_49 rfl (lv_at hl 4 rfl) ?_
            refine va_iast (n := 10) hx hb hK hP (wC_D hD) hS (11 + what.toNatClampNeg) 0 (wC_row2 (vp_lt (in2 c_12 c_17))) rfl (in_isDoor hKK c_5) d_C_turn_50 (fun H locs hP _ hS => ?_)
            have hP : va_P D classes (wC a cI cII (nI N) (nI K) (sU A (8 + what.toNatClampNeg) dr.toNatClampNeg v)) H := by have h9 := hP; rw [wC_set2 (j := what.toNatClampNeg) (vp_lt (in2 c_12 c_17))] at h9; exact h9
            refine lv_iload hx hb d_C_turn_51 (lv_at hl 0 rfl) ?_
            exact wRet (u := sU A (8 + what.toNatClampNeg) dr.toNatClampNeg v) hx hb hr rfl hlk (show A (8 + what.toNatClampNeg) dr.toNatClampNeg = (k_turn N K A dr what v).1 ∧ sU A (8 + what.toNatClampNeg) dr.toNatClampNeg v = (k_turn N K A dr what v).2 from by rw [k_turn, if_neg c_5, if_neg c_12, if_neg c_17, if_neg c_21, if_pos c_26]; exact ⟨rfl, rfl⟩) hP hK hS d_C_turn_53
          · refine lv_bipush (v := (-3 : Int32)) hx hb d_C_turn_29 (by decide) ?_
            exact wRet (u := A) hx hb hr rfl hlk (show (-3 : Int32) = (k_turn N K A dr what v).1 ∧ A = (k_turn N K A dr what v).2 from by rw [k_turn, if_neg c_5, if_neg c_12, if_neg c_17, if_neg c_21, if_neg c_26]; exact ⟨rfl, rfl⟩) hP hK hS d_C_turn_31
  · refine lv_bipush (v := (-2 : Int32)) hx hb d_C_turn_8 (by decide) ?_
    exact wRet (u := A) hx hb hr rfl hlk (show (-2 : Int32) = (k_turn N K A dr what v).1 ∧ A = (k_turn N K A dr what v).2 from by rw [k_turn, if_pos c_5]; exact ⟨rfl, rfl⟩) hP hK hS d_C_turn_10

def k_take (N K : Nat) (A : Nat → Nat → Int32) (who x : Int32) : Int32 × (Nat → Nat → Int32) := (if (k_isPerson N K A who) = (0 : Int32) then ((-2 : Int32), A) else (if (k_isThing N K A x) = (0 : Int32) then ((-2 : Int32), A) else (if (k_sortOf N K A x) = (0 : Int32) then ((-2 : Int32), A) else (if (k_isPerson N K A x) = (0 : Int32) then (if (k_isWithin N K A who x) = (0 : Int32) then (if (k_firstBarrier N K A who x) = (-5 : Int32) then ((-5 : Int32), A) else (if (k_firstBarrier N K A who x) = (-1 : Int32) then (if (A 1 x.toNatClampNeg) = who then ((0 : Int32), A) else (if (k_isFull N K A who) = (0 : Int32) then ((1 : Int32), sU A 1 x.toNatClampNeg who) else ((-7 : Int32), A))) else ((-6 : Int32), A))) else ((-4 : Int32), A)) else ((-2 : Int32), A)))))
set_option maxHeartbeats 4000000 in
set_option maxRecDepth 100000 in
theorem ck_take (l : Launch) (D : va_G) (a : Nat → Nat) (cI cII : ClassId) (N K : Nat) (A : Nat → Nat → Int32) (hN : N ≤ 30) (hKK : K ≤ 10) (Z : Nat → Prop) (who x : Int32) : Met l y_C_take (Cond.code y_C_take b_C_take 4 (some .int) :: BW) ({ frames := 5, cells := 0, slots := 0, locals := 114 } : Room) (PcW D Z (wC a cI cII (nI N) (nI K) A) (tC cI cII) [.ref (a 0), .int who, .int x]) (va_Qi (fun r u => r = (k_take N K A who x).1 ∧ u = (k_take N K A who x).2) (atW D (fun u => wC a cI cII (nI N) (nI K) u) (tC cI cII)) Z) 0 0 Z := by
  refine wStart (by decide) rfl (Nat.le_of_ble_eq_true rfl) (fun p e s m below meth c Sx hr hlk hP hK hD hS ls hl => ?_)
  obtain ⟨hx, hb, hml, hown, hts⟩ := id Sx
  have hl : lv_has ls 4 [(0, .ref (a 0)), (1, .int who), (2, .int x)] := hl
  refine lv_aload_n hx hb d_C_take_0 rfl (lv_at hl 0 rfl) ?_
  refine lv_iload_n hx hb d_C_take_1 rfl (lv_at hl 1 rfl) ?_
  refine xro (As := [.int who]) (rest := []) Sx (ck_isPerson l D a cI cII N K A hN hKK who) v_C_isPerson ⟨rfl, rfl, Nat.le_of_ble_eq_true rfl, Nat.le_of_ble_eq_true rfl⟩ hK hP (ci := 0) (q0 := 0) rfl rfl rfl hl.1 rfl (Nat.le_of_ble_eq_true rfl) d_C_take_2 ⟨Nat.le_of_ble_eq_true rfl, Nat.le_of_ble_eq_true rfl⟩ (fun r hq => ?_)
  subst hq
  refine lv_if_eq (tgt := 32) hx hb d_C_take_5 (by decide) (fun c_5 => ?_) (fun c_5 => ?_)
  · refine lv_bipush (v := (-2 : Int32)) hx hb d_C_take_32 (by decide) ?_
    exact wRet (u := A) hx hb hr rfl hlk (show (-2 : Int32) = (k_take N K A who x).1 ∧ A = (k_take N K A who x).2 from by rw [k_take, if_pos c_5]; exact ⟨rfl, rfl⟩) hP hK hS d_C_take_34
  · refine lv_aload_n hx hb d_C_take_8 rfl (lv_at hl 0 rfl) ?_
    refine lv_iload_n hx hb d_C_take_9 rfl (lv_at hl 2 rfl) ?_
    refine xro (As := [.int x]) (rest := []) Sx (ck_isThing l D a cI cII N K A hN hKK x) v_C_isThing ⟨rfl, rfl, Nat.le_of_ble_eq_true rfl, Nat.le_of_ble_eq_true rfl⟩ hK hP (ci := 0) (q0 := 0) rfl rfl rfl hl.1 rfl (Nat.le_of_ble_eq_true rfl) d_C_take_10 ⟨Nat.le_of_ble_eq_true rfl, Nat.le_of_ble_eq_true rfl⟩ (fun r hq => ?_)
    subst hq
    refine lv_if_eq (tgt := 32) hx hb d_C_take_13 (by decide) (fun c_13 => ?_) (fun c_13 => ?_)
    · refine lv_bipush (v := (-2 : Int32)) hx hb d_C_take_32 (by decide) ?_
      exact wRet (u := A) hx hb hr rfl hlk (show (-2 : Int32) = (k_take N K A who x).1 ∧ A = (k_take N K A who x).2 from by rw [k_take, if_neg c_5, if_pos c_13]; exact ⟨rfl, rfl⟩) hP hK hS d_C_take_34
    · refine lv_aload_n hx hb d_C_take_16 rfl (lv_at hl 0 rfl) ?_
      refine lv_iload_n hx hb d_C_take_17 rfl (lv_at hl 2 rfl) ?_
      refine xro (As := [.int x]) (rest := []) Sx (ck_sortOf l D a cI cII N K A hN hKK x) v_C_sortOf ⟨rfl, rfl, Nat.le_of_ble_eq_true rfl, Nat.le_of_ble_eq_true rfl⟩ hK hP (ci := 0) (q0 := 0) rfl rfl rfl hl.1 rfl (Nat.le_of_ble_eq_true rfl) d_C_take_18 ⟨Nat.le_of_ble_eq_true rfl, Nat.le_of_ble_eq_true rfl⟩ (fun r hq => ?_)
      subst hq
      refine lv_if_eq (tgt := 32) hx hb d_C_take_21 (by decide) (fun c_21 => ?_) (fun c_21 => ?_)
      · refine lv_bipush (v := (-2 : Int32)) hx hb d_C_take_32 (by decide) ?_
        exact wRet (u := A) hx hb hr rfl hlk (show (-2 : Int32) = (k_take N K A who x).1 ∧ A = (k_take N K A who x).2 from by rw [k_take, if_neg c_5, if_neg c_13, if_pos c_21]; exact ⟨rfl, rfl⟩) hP hK hS d_C_take_34
      · refine lv_aload_n hx hb d_C_take_24 rfl (lv_at hl 0 rfl) ?_
        refine lv_iload_n hx hb d_C_take_25 rfl (lv_at hl 2 rfl) ?_
        refine xro (As := [.int x]) (rest := []) Sx (ck_isPerson l D a cI cII N K A hN hKK x) v_C_isPerson ⟨rfl, rfl, Nat.le_of_ble_eq_true rfl, Nat.le_of_ble_eq_true rfl⟩ hK hP (ci := 0) (q0 := 0) rfl rfl rfl hl.1 rfl (Nat.le_of_ble_eq_true rfl) d_C_take_26 ⟨Nat.le_of_ble_eq_true rfl, Nat.le_of_ble_eq_true rfl⟩ (fun r hq => ?_)
        subst hq
        refine lv_if_eq (tgt := 35) hx hb d_C_take_29 (by decide) (fun c_29 => ?_) (fun c_29 => ?_)
        · refine lv_aload_n hx hb d_C_take_35 rfl (lv_at hl 0 rfl) ?_
          refine lv_iload_n hx hb d_C_take_36 rfl (lv_at hl 1 rfl) ?_
          refine lv_iload_n hx hb d_C_take_37 rfl (lv_at hl 2 rfl) ?_
          refine xro (As := [.int who, .int x]) (rest := []) Sx (ck_isWithin l D a cI cII N K A hN hKK who x) v_C_isWithin ⟨rfl, rfl, Nat.le_of_ble_eq_true rfl, Nat.le_of_ble_eq_true rfl⟩ hK hP (ci := 0) (q0 := 0) rfl rfl rfl hl.1 rfl (Nat.le_of_ble_eq_true rfl) d_C_take_38 ⟨Nat.le_of_ble_eq_true rfl, Nat.le_of_ble_eq_true rfl⟩ (fun r hq => ?_)
          subst hq
          refine lv_if_eq (tgt := 47) hx hb d_C_take_41 (by decide) (fun c_41 => ?_) (fun c_41 => ?_)
          · refine lv_aload_n hx hb d_C_take_47 rfl (lv_at hl 0 rfl) ?_
            refine lv_iload_n hx hb d_C_take_48 rfl (lv_at hl 1 rfl) ?_
            refine lv_iload_n hx hb d_C_take_49 rfl (lv_at hl 2 rfl) ?_
            refine xro (As := [.int who, .int x]) (rest := []) Sx (ck_firstBarrier l D a cI cII N K A hN hKK who x) v_C_firstBarrier ⟨rfl, rfl, Nat.le_of_ble_eq_true rfl, Nat.le_of_ble_eq_true rfl⟩ hK hP (ci := 0) (q0 := 0) rfl rfl rfl hl.1 rfl (Nat.le_of_ble_eq_true rfl) d_C_take_50 ⟨Nat.le_of_ble_eq_true rfl, Nat.le_of_ble_eq_true rfl⟩ (fun r hq => ?_)
            subst hq
            refine lv_istore_n (lv' := [(3, .int (k_firstBarrier N K A who x)), (0, .ref (a 0)), (1, .int who), (2, .int x)]) hx hb d_C_take_53 rfl hl (by decide) rfl (fun ls hl => ?_)
            refine lv_iload_n hx hb d_C_take_54 rfl (lv_at hl 0 rfl) ?_
            refine lv_bipush (v := (-5 : Int32)) hx hb d_C_take_55 (by decide) ?_
            refine lv_icmp_ne (tgt := 63) hx hb d_C_take_57 (by decide) (fun c_57 => ?_) (fun c_57 => ?_)
            · refine lv_iload_n hx hb d_C_take_63 rfl (lv_at hl 0 rfl) ?_
              refine lv_iconst (v := (-1 : Int32)) hx hb d_C_take_64 (by decide) ?_
              refine lv_icmp_eq (tgt := 71) hx hb d_C_take_65 (by decide) (fun c_65 => ?_) (fun c_65 => ?_)
              · refine lv_aload_n hx hb d_C_take_71 rfl (lv_at hl 1 rfl) ?_
                refine va_get (D := D) (ci := 0) (v := .ref (a 2)) (C := R_C) (T := F_C) (N := 9) hx hb hts i_C hown hK hP 0 rfl rfl 2 (by decide) (hts _ fl_C_17) (fun _ h9 => h9) rfl d_C_take_72 ?_
                refine lv_iload_n hx hb d_C_take_75 rfl (lv_at hl 3 rfl) ?_
                refine va_iald (n := 30) hx hb hK hP 2 0 rfl rfl (in_isThing hN c_13) d_C_take_76 ?_
                refine lv_iload_n hx hb d_C_take_77 rfl (lv_at hl 2 rfl) ?_
                refine lv_icmp_ne (tgt := 83) hx hb d_C_take_78 (by decide) (fun c_78 => ?_) (fun c_78 => ?_)
                · refine lv_aload_n hx hb d_C_take_83 rfl (lv_at hl 1 rfl) ?_
                  refine lv_iload_n hx hb d_C_take_84 rfl (lv_at hl 2 rfl) ?_
                  refine xro (As := [.int who]) (rest := []) Sx (ck_isFull l D a cI cII N K A hN hKK who) v_C_isFull ⟨rfl, rfl, Nat.le_of_ble_eq_true rfl, Nat.le_of_ble_eq_true rfl⟩ hK hP (ci := 0) (q0 := 0) rfl rfl rfl hl.1 rfl (Nat.le_of_ble_eq_true rfl) d_C_take_85 ⟨Nat.le_of_ble_eq_true rfl, Nat.le_of_ble_eq_true rfl⟩ (fun r hq => ?_)
                  subst hq
                  refine lv_if_eq (tgt := 94) hx hb d_C_take_88 (by decide) (fun c_88 => ?_) (fun c_88 => ?_)
                  · refine lv_aload_n hx hb d_C_take_94 rfl (lv_at hl 1 rfl) ?_
                    refine va_get (D := D) (ci := 0) (v := .ref (a 2)) (C := R_C) (T := F_C) (N := 9) hx hb hts i_C hown hK hP 0 rfl rfl 2 (by decide) (hts _ fl_C_17) (fun _ h9 => h9) rfl d_C_take_95 ?_
                    refine lv_iload_n hx hb d_C_take_98 rfl (lv_at hl 3 rfl) ?_
                    refine lv_iload_n hx hb d_C_take_99 rfl (lv_at hl 2 rfl) ?_
                    refine va_iast (n := 30) hx hb hK hP (wC_D hD) hS 2 0 rfl rfl (in_isThing hN c_13) d_C_take_100 (fun H locs hP _ hS => ?_)
                    have hP : va_P D classes (wC a cI cII (nI N) (nI K) (sU A 1 x.toNatClampNeg who)) H := hP
                    refine lv_iconst (v := (1 : Int32)) hx hb d_C_take_101 (by decide) ?_
                    exact wRet (u := sU A 1 x.toNatClampNeg who) hx hb hr rfl hlk (show (1 : Int32) = (k_take N K A who x).1 ∧ sU A 1 x.toNatClampNeg who = (k_take N K A who x).2 from by rw [k_take, if_neg c_5, if_neg c_13, if_neg c_21, if_pos c_29, if_pos c_41, if_neg c_57, if_pos c_65, if_neg c_78, if_pos c_88]; exact ⟨rfl, rfl⟩) hP hK hS d_C_take_102
                  · refine lv_bipush (v := (-7 : Int32)) hx hb d_C_take_91 (by decide) ?_
                    exact wRet (u := A) hx hb hr rfl hlk (show (-7 : Int32) = (k_take N K A who x).1 ∧ A = (k_take N K A who x).2 from by rw [k_take, if_neg c_5, if_neg c_13, if_neg c_21, if_pos c_29, if_pos c_41, if_neg c_57, if_pos c_65, if_neg c_78, if_neg c_88]; exact ⟨rfl, rfl⟩) hP hK hS d_C_take_93
                · refine lv_iconst (v := (0 : Int32)) hx hb d_C_take_81 (by decide) ?_
                  exact wRet (u := A) hx hb hr rfl hlk (show (0 : Int32) = (k_take N K A who x).1 ∧ A = (k_take N K A who x).2 from by rw [k_take, if_neg c_5, if_neg c_13, if_neg c_21, if_pos c_29, if_pos c_41, if_neg c_57, if_pos c_65, if_pos c_78]; exact ⟨rfl, rfl⟩) hP hK hS d_C_take_82
              · refine lv_bipush (v := (-6 : Int32)) hx hb d_C_take_68 (by decide) ?_
                exact wRet (u := A) hx hb hr rfl hlk (show (-6 : Int32) = (k_take N K A who x).1 ∧ A = (k_take N K A who x).2 from by rw [k_take, if_neg c_5, if_neg c_13, if_neg c_21, if_pos c_29, if_pos c_41, if_neg c_57, if_neg c_65]; exact ⟨rfl, rfl⟩) hP hK hS d_C_take_70
            · refine lv_bipush (v := (-5 : Int32)) hx hb d_C_take_60 (by decide) ?_
              exact wRet (u := A) hx hb hr rfl hlk (show (-5 : Int32) = (k_take N K A who x).1 ∧ A = (k_take N K A who x).2 from by rw [k_take, if_neg c_5, if_neg c_13, if_neg c_21, if_pos c_29, if_pos c_41, if_pos c_57]; exact ⟨rfl, rfl⟩) hP hK hS d_C_take_62
          · refine lv_bipush (v := (-4 : Int32)) hx hb d_C_take_44 (by decide) ?_
            exact wRet (u := A) hx hb hr rfl hlk (show (-4 : Int32) = (k_take N K A who x).1 ∧ A = (k_take N K A who x).2 from by rw [k_take, if_neg c_5, if_neg c_13, if_neg c_21, if_pos c_29, if_neg c_41]; exact ⟨rfl, rfl⟩) hP hK hS d_C_take_46
        · refine lv_bipush (v := (-2 : Int32)) hx hb d_C_take_32 (by decide) ?_
          exact wRet (u := A) hx hb hr rfl hlk (show (-2 : Int32) = (k_take N K A who x).1 ∧ A = (k_take N K A who x).2 from by rw [k_take, if_neg c_5, if_neg c_13, if_neg c_21, if_neg c_29]; exact ⟨rfl, rfl⟩) hP hK hS d_C_take_34

def k_give (N K : Nat) (A : Nat → Nat → Int32) (who x t : Int32) : Int32 × (Nat → Nat → Int32) := (if (k_hasInHands N K A who x) = (0 : Int32) then ((-2 : Int32), A) else (if t = who then ((-2 : Int32), A) else (if (k_mayBeGivenTo N K A t) = (0 : Int32) then ((-2 : Int32), A) else (if t = x then ((-4 : Int32), A) else (if (k_isWithin N K A t x) = (0 : Int32) then (if (k_firstBarrier N K A who t) = (-5 : Int32) then ((-5 : Int32), A) else (if (k_firstBarrier N K A who t) = (-1 : Int32) then (if (k_isShutBox N K A t) = (0 : Int32) then (if (k_isFull N K A t) = (0 : Int32) then ((1 : Int32), sU A 1 x.toNatClampNeg t) else ((-7 : Int32), A)) else ((-6 : Int32), A)) else ((-6 : Int32), A))) else ((-4 : Int32), A))))))
set_option maxHeartbeats 4000000 in
set_option maxRecDepth 100000 in
theorem ck_give (l : Launch) (D : va_G) (a : Nat → Nat) (cI cII : ClassId) (N K : Nat) (A : Nat → Nat → Int32) (hN : N ≤ 30) (hKK : K ≤ 10) (Z : Nat → Prop) (who x t : Int32) : Met l y_C_give (Cond.code y_C_give b_C_give 5 (some .int) :: BW) ({ frames := 5, cells := 0, slots := 0, locals := 114 } : Room) (PcW D Z (wC a cI cII (nI N) (nI K) A) (tC cI cII) [.ref (a 0), .int who, .int x, .int t]) (va_Qi (fun r u => r = (k_give N K A who x t).1 ∧ u = (k_give N K A who x t).2) (atW D (fun u => wC a cI cII (nI N) (nI K) u) (tC cI cII)) Z) 0 0 Z := by
  refine wStart (by decide) rfl (Nat.le_of_ble_eq_true rfl) (fun p e s m below meth c Sx hr hlk hP hK hD hS ls hl => ?_)
  obtain ⟨hx, hb, hml, hown, hts⟩ := id Sx
  have hl : lv_has ls 5 [(0, .ref (a 0)), (1, .int who), (2, .int x), (3, .int t)] := hl
  refine lv_aload_n hx hb d_C_give_0 rfl (lv_at hl 0 rfl) ?_
  refine lv_iload_n hx hb d_C_give_1 rfl (lv_at hl 1 rfl) ?_
  refine lv_iload_n hx hb d_C_give_2 rfl (lv_at hl 2 rfl) ?_
  refine xro (As := [.int who, .int x]) (rest := []) Sx (ck_hasInHands l D a cI cII N K A hN hKK who x) v_C_hasInHands ⟨rfl, rfl, Nat.le_of_ble_eq_true rfl, Nat.le_of_ble_eq_true rfl⟩ hK hP (ci := 0) (q0 := 0) rfl rfl rfl hl.1 rfl (Nat.le_of_ble_eq_true rfl) d_C_give_3 ⟨Nat.le_of_ble_eq_true rfl, Nat.le_of_ble_eq_true rfl⟩ (fun r hq => ?_)
  subst hq
  refine lv_if_eq (tgt := 22) hx hb d_C_give_6 (by decide) (fun c_6 => ?_) (fun c_6 => ?_)
  · refine lv_bipush (v := (-2 : Int32)) hx hb d_C_give_22 (by decide) ?_
    exact wRet (u := A) hx hb hr rfl hlk (show (-2 : Int32) = (k_give N K A who x t).1 ∧ A = (k_give N K A who x t).2 from by rw [k_give, if_pos c_6]; exact ⟨rfl, rfl⟩) hP hK hS d_C_give_24
  · refine lv_iload_n hx hb d_C_give_9 rfl (lv_at hl 3 rfl) ?_
    refine lv_iload_n hx hb d_C_give_10 rfl (lv_at hl 1 rfl) ?_
    refine lv_icmp_eq (tgt := 22) hx hb d_C_give_11 (by decide) (fun c_11 => ?_) (fun c_11 => ?_)
    · refine lv_bipush (v := (-2 : Int32)) hx hb d_C_give_22 (by decide) ?_
      exact wRet (u := A) hx hb hr rfl hlk (show (-2 : Int32) = (k_give N K A who x t).1 ∧ A = (k_give N K A who x t).2 from by rw [k_give, if_neg c_6, if_pos c_11]; exact ⟨rfl, rfl⟩) hP hK hS d_C_give_24
    · refine lv_aload_n hx hb d_C_give_14 rfl (lv_at hl 0 rfl) ?_
      refine lv_iload_n hx hb d_C_give_15 rfl (lv_at hl 3 rfl) ?_
      refine xro (As := [.int t]) (rest := []) Sx (ck_mayBeGivenTo l D a cI cII N K A hN hKK t) v_C_mayBeGivenTo ⟨rfl, rfl, Nat.le_of_ble_eq_true rfl, Nat.le_of_ble_eq_true rfl⟩ hK hP (ci := 0) (q0 := 0) rfl rfl rfl hl.1 rfl (Nat.le_of_ble_eq_true rfl) d_C_give_16 ⟨Nat.le_of_ble_eq_true rfl, Nat.le_of_ble_eq_true rfl⟩ (fun r hq => ?_)
      subst hq
      refine lv_if_ne (tgt := 25) hx hb d_C_give_19 (by decide) (fun c_19 => ?_) (fun c_19 => ?_)
      · refine lv_iload_n hx hb d_C_give_25 rfl (lv_at hl 3 rfl) ?_
        refine lv_iload_n hx hb d_C_give_26 rfl (lv_at hl 2 rfl) ?_
        refine lv_icmp_eq (tgt := 39) hx hb d_C_give_27 (by decide) (fun c_27 => ?_) (fun c_27 => ?_)
        · refine lv_bipush (v := (-4 : Int32)) hx hb d_C_give_39 (by decide) ?_
          exact wRet (u := A) hx hb hr rfl hlk (show (-4 : Int32) = (k_give N K A who x t).1 ∧ A = (k_give N K A who x t).2 from by rw [k_give, if_neg c_6, if_neg c_11, if_neg c_19, if_pos c_27]; exact ⟨rfl, rfl⟩) hP hK hS d_C_give_41
        · refine lv_aload_n hx hb d_C_give_30 rfl (lv_at hl 0 rfl) ?_
          refine lv_iload_n hx hb d_C_give_31 rfl (lv_at hl 3 rfl) ?_
          refine lv_iload_n hx hb d_C_give_32 rfl (lv_at hl 2 rfl) ?_
          refine xro (As := [.int t, .int x]) (rest := []) Sx (ck_isWithin l D a cI cII N K A hN hKK t x) v_C_isWithin ⟨rfl, rfl, Nat.le_of_ble_eq_true rfl, Nat.le_of_ble_eq_true rfl⟩ hK hP (ci := 0) (q0 := 0) rfl rfl rfl hl.1 rfl (Nat.le_of_ble_eq_true rfl) d_C_give_33 ⟨Nat.le_of_ble_eq_true rfl, Nat.le_of_ble_eq_true rfl⟩ (fun r hq => ?_)
          subst hq
          refine lv_if_eq (tgt := 42) hx hb d_C_give_36 (by decide) (fun c_36 => ?_) (fun c_36 => ?_)
          · refine lv_aload_n hx hb d_C_give_42 rfl (lv_at hl 0 rfl) ?_
            refine lv_iload_n hx hb d_C_give_43 rfl (lv_at hl 1 rfl) ?_
            refine lv_iload_n hx hb d_C_give_44 rfl (lv_at hl 3 rfl) ?_
            refine xro (As := [.int who, .int t]) (rest := []) Sx (ck_firstBarrier l D a cI cII N K A hN hKK who t) v_C_firstBarrier ⟨rfl, rfl, Nat.le_of_ble_eq_true rfl, Nat.le_of_ble_eq_true rfl⟩ hK hP (ci := 0) (q0 := 0) rfl rfl rfl hl.1 rfl (Nat.le_of_ble_eq_true rfl) d_C_give_45 ⟨Nat.le_of_ble_eq_true rfl, Nat.le_of_ble_eq_true rfl⟩ (fun r hq => ?_)
            subst hq
            refine lv_istore (lv' := [(4, .int (k_firstBarrier N K A who t)), (0, .ref (a 0)), (1, .int who), (2, .int x), (3, .int t)]) hx hb d_C_give_48 hl (by decide) rfl (fun ls hl => ?_)
            refine lv_iload hx hb d_C_give_50 (lv_at hl 0 rfl) ?_
            refine lv_bipush (v := (-5 : Int32)) hx hb d_C_give_52 (by decide) ?_
            refine lv_icmp_ne (tgt := 60) hx hb d_C_give_54 (by decide) (fun c_54 => ?_) (fun c_54 => ?_)
            · refine lv_iload hx hb d_C_give_60 (lv_at hl 0 rfl) ?_
              refine lv_iconst (v := (-1 : Int32)) hx hb d_C_give_62 (by decide) ?_
              refine lv_icmp_ne (tgt := 74) hx hb d_C_give_63 (by decide) (fun c_63 => ?_) (fun c_63 => ?_)
              · refine lv_bipush (v := (-6 : Int32)) hx hb d_C_give_74 (by decide) ?_
                exact wRet (u := A) hx hb hr rfl hlk (show (-6 : Int32) = (k_give N K A who x t).1 ∧ A = (k_give N K A who x t).2 from by rw [k_give, if_neg c_6, if_neg c_11, if_neg c_19, if_neg c_27, if_pos c_36, if_neg c_54, if_neg c_63]; exact ⟨rfl, rfl⟩) hP hK hS d_C_give_76
              · refine lv_aload_n hx hb d_C_give_66 rfl (lv_at hl 1 rfl) ?_
                refine lv_iload_n hx hb d_C_give_67 rfl (lv_at hl 4 rfl) ?_
                refine xro (As := [.int t]) (rest := []) Sx (ck_isShutBox l D a cI cII N K A hN hKK t) v_C_isShutBox ⟨rfl, rfl, Nat.le_of_ble_eq_true rfl, Nat.le_of_ble_eq_true rfl⟩ hK hP (ci := 0) (q0 := 0) rfl rfl rfl hl.1 rfl (Nat.le_of_ble_eq_true rfl) d_C_give_68 ⟨Nat.le_of_ble_eq_true rfl, Nat.le_of_ble_eq_true rfl⟩ (fun r hq => ?_)
                subst hq
                refine lv_if_eq (tgt := 77) hx hb d_C_give_71 (by decide) (fun c_71 => ?_) (fun c_71 => ?_)
                · refine lv_aload_n hx hb d_C_give_77 rfl (lv_at hl 1 rfl) ?_
                  refine lv_iload_n hx hb d_C_give_78 rfl (lv_at hl 4 rfl) ?_
                  refine xro (As := [.int t]) (rest := []) Sx (ck_isFull l D a cI cII N K A hN hKK t) v_C_isFull ⟨rfl, rfl, Nat.le_of_ble_eq_true rfl, Nat.le_of_ble_eq_true rfl⟩ hK hP (ci := 0) (q0 := 0) rfl rfl rfl hl.1 rfl (Nat.le_of_ble_eq_true rfl) d_C_give_79 ⟨Nat.le_of_ble_eq_true rfl, Nat.le_of_ble_eq_true rfl⟩ (fun r hq => ?_)
                  subst hq
                  refine lv_if_eq (tgt := 88) hx hb d_C_give_82 (by decide) (fun c_82 => ?_) (fun c_82 => ?_)
                  · refine lv_aload_n hx hb d_C_give_88 rfl (lv_at hl 1 rfl) ?_
                    refine va_get (D := D) (ci := 0) (v := .ref (a 2)) (C := R_C) (T := F_C) (N := 9) hx hb hts i_C hown hK hP 0 rfl rfl 2 (by decide) (hts _ fl_C_17) (fun _ h9 => h9) rfl d_C_give_89 ?_
                    refine lv_iload_n hx hb d_C_give_92 rfl (lv_at hl 3 rfl) ?_
                    refine lv_iload_n hx hb d_C_give_93 rfl (lv_at hl 4 rfl) ?_
                    refine va_iast (n := 30) hx hb hK hP (wC_D hD) hS 2 0 rfl rfl (in_hasInHands hN c_6) d_C_give_94 (fun H locs hP _ hS => ?_)
                    have hP : va_P D classes (wC a cI cII (nI N) (nI K) (sU A 1 x.toNatClampNeg t)) H := hP
                    refine lv_iconst (v := (1 : Int32)) hx hb d_C_give_95 (by decide) ?_
                    exact wRet (u := sU A 1 x.toNatClampNeg t) hx hb hr rfl hlk (show (1 : Int32) = (k_give N K A who x t).1 ∧ sU A 1 x.toNatClampNeg t = (k_give N K A who x t).2 from by rw [k_give, if_neg c_6, if_neg c_11, if_neg c_19, if_neg c_27, if_pos c_36, if_neg c_54, if_pos c_63, if_pos c_71, if_pos c_82]; exact ⟨rfl, rfl⟩) hP hK hS d_C_give_96
                  · refine lv_bipush (v := (-7 : Int32)) hx hb d_C_give_85 (by decide) ?_
                    exact wRet (u := A) hx hb hr rfl hlk (show (-7 : Int32) = (k_give N K A who x t).1 ∧ A = (k_give N K A who x t).2 from by rw [k_give, if_neg c_6, if_neg c_11, if_neg c_19, if_neg c_27, if_pos c_36, if_neg c_54, if_pos c_63, if_pos c_71, if_neg c_82]; exact ⟨rfl, rfl⟩) hP hK hS d_C_give_87
                · refine lv_bipush (v := (-6 : Int32)) hx hb d_C_give_74 (by decide) ?_
                  exact wRet (u := A) hx hb hr rfl hlk (show (-6 : Int32) = (k_give N K A who x t).1 ∧ A = (k_give N K A who x t).2 from by rw [k_give, if_neg c_6, if_neg c_11, if_neg c_19, if_neg c_27, if_pos c_36, if_neg c_54, if_pos c_63, if_neg c_71]; exact ⟨rfl, rfl⟩) hP hK hS d_C_give_76
            · refine lv_bipush (v := (-5 : Int32)) hx hb d_C_give_57 (by decide) ?_
              exact wRet (u := A) hx hb hr rfl hlk (show (-5 : Int32) = (k_give N K A who x t).1 ∧ A = (k_give N K A who x t).2 from by rw [k_give, if_neg c_6, if_neg c_11, if_neg c_19, if_neg c_27, if_pos c_36, if_pos c_54]; exact ⟨rfl, rfl⟩) hP hK hS d_C_give_59
          · refine lv_bipush (v := (-4 : Int32)) hx hb d_C_give_39 (by decide) ?_
            exact wRet (u := A) hx hb hr rfl hlk (show (-4 : Int32) = (k_give N K A who x t).1 ∧ A = (k_give N K A who x t).2 from by rw [k_give, if_neg c_6, if_neg c_11, if_neg c_19, if_neg c_27, if_neg c_36]; exact ⟨rfl, rfl⟩) hP hK hS d_C_give_41
      · refine lv_bipush (v := (-2 : Int32)) hx hb d_C_give_22 (by decide) ?_
        exact wRet (u := A) hx hb hr rfl hlk (show (-2 : Int32) = (k_give N K A who x t).1 ∧ A = (k_give N K A who x t).2 from by rw [k_give, if_neg c_6, if_neg c_11, if_pos c_19]; exact ⟨rfl, rfl⟩) hP hK hS d_C_give_24

def k_drop (N K : Nat) (A : Nat → Nat → Int32) (who x : Int32) : Int32 × (Nat → Nat → Int32) := (if (k_hasInHands N K A who x) = (0 : Int32) then ((-2 : Int32), A) else (if (k_holderOf N K A who) = (-1 : Int32) then ((-5 : Int32), A) else (if (k_isFull N K A (k_holderOf N K A who)) = (0 : Int32) then ((1 : Int32), sU A 1 x.toNatClampNeg (k_holderOf N K A who)) else ((-7 : Int32), A))))
set_option maxHeartbeats 4000000 in
set_option maxRecDepth 100000 in
theorem ck_drop (l : Launch) (D : va_G) (a : Nat → Nat) (cI cII : ClassId) (N K : Nat) (A : Nat → Nat → Int32) (hN : N ≤ 30) (hKK : K ≤ 10) (Z : Nat → Prop) (who x : Int32) : Met l y_C_drop (Cond.code y_C_drop b_C_drop 4 (some .int) :: BW) ({ frames := 4, cells := 0, slots := 0, locals := 85 } : Room) (PcW D Z (wC a cI cII (nI N) (nI K) A) (tC cI cII) [.ref (a 0), .int who, .int x]) (va_Qi (fun r u => r = (k_drop N K A who x).1 ∧ u = (k_drop N K A who x).2) (atW D (fun u => wC a cI cII (nI N) (nI K) u) (tC cI cII)) Z) 0 0 Z := by
  refine wStart (by decide) rfl (Nat.le_of_ble_eq_true rfl) (fun p e s m below meth c Sx hr hlk hP hK hD hS ls hl => ?_)
  obtain ⟨hx, hb, hml, hown, hts⟩ := id Sx
  have hl : lv_has ls 4 [(0, .ref (a 0)), (1, .int who), (2, .int x)] := hl
  refine lv_aload_n hx hb d_C_drop_0 rfl (lv_at hl 0 rfl) ?_
  refine lv_iload_n hx hb d_C_drop_1 rfl (lv_at hl 1 rfl) ?_
  refine lv_iload_n hx hb d_C_drop_2 rfl (lv_at hl 2 rfl) ?_
  refine xro (As := [.int who, .int x]) (rest := []) Sx (ck_hasInHands l D a cI cII N K A hN hKK who x) v_C_hasInHands ⟨rfl, rfl, Nat.le_of_ble_eq_true rfl, Nat.le_of_ble_eq_true rfl⟩ hK hP (ci := 0) (q0 := 0) rfl rfl rfl hl.1 rfl (Nat.le_of_ble_eq_true rfl) d_C_drop_3 ⟨Nat.le_of_ble_eq_true rfl, Nat.le_of_ble_eq_true rfl⟩ (fun r hq => ?_)
  subst hq
  refine lv_if_ne (tgt := 12) hx hb d_C_drop_6 (by decide) (fun c_6 => ?_) (fun c_6 => ?_)
  · refine lv_aload_n hx hb d_C_drop_12 rfl (lv_at hl 0 rfl) ?_
    refine lv_iload_n hx hb d_C_drop_13 rfl (lv_at hl 1 rfl) ?_
    refine xro (As := [.int who]) (rest := []) Sx (ck_holderOf l D a cI cII N K A hN hKK who) v_C_holderOf ⟨rfl, rfl, Nat.le_of_ble_eq_true rfl, Nat.le_of_ble_eq_true rfl⟩ hK hP (ci := 0) (q0 := 0) rfl rfl rfl hl.1 rfl (Nat.le_of_ble_eq_true rfl) d_C_drop_14 ⟨Nat.le_of_ble_eq_true rfl, Nat.le_of_ble_eq_true rfl⟩ (fun r hq => ?_)
    subst hq
    refine lv_istore_n (lv' := [(3, .int (k_holderOf N K A who)), (0, .ref (a 0)), (1, .int who), (2, .int x)]) hx hb d_C_drop_17 rfl hl (by decide) rfl (fun ls hl => ?_)
    refine lv_iload_n hx hb d_C_drop_18 rfl (lv_at hl 0 rfl) ?_
    refine lv_iconst (v := (-1 : Int32)) hx hb d_C_drop_19 (by decide) ?_
    refine lv_icmp_ne (tgt := 26) hx hb d_C_drop_20 (by decide) (fun c_20 => ?_) (fun c_20 => ?_)
    · refine lv_aload_n hx hb d_C_drop_26 rfl (lv_at hl 1 rfl) ?_
      refine lv_iload_n hx hb d_C_drop_27 rfl (lv_at hl 0 rfl) ?_
      refine xro (As := [.int (k_holderOf N K A who)]) (rest := []) Sx (ck_isFull l D a cI cII N K A hN hKK (k_holderOf N K A who)) v_C_isFull ⟨rfl, rfl, Nat.le_of_ble_eq_true rfl, Nat.le_of_ble_eq_true rfl⟩ hK hP (ci := 0) (q0 := 0) rfl rfl rfl hl.1 rfl (Nat.le_of_ble_eq_true rfl) d_C_drop_28 ⟨Nat.le_of_ble_eq_true rfl, Nat.le_of_ble_eq_true rfl⟩ (fun r hq => ?_)
      subst hq
      refine lv_if_eq (tgt := 37) hx hb d_C_drop_31 (by decide) (fun c_31 => ?_) (fun c_31 => ?_)
      · refine lv_aload_n hx hb d_C_drop_37 rfl (lv_at hl 1 rfl) ?_
        refine va_get (D := D) (ci := 0) (v := .ref (a 2)) (C := R_C) (T := F_C) (N := 9) hx hb hts i_C hown hK hP 0 rfl rfl 2 (by decide) (hts _ fl_C_17) (fun _ h9 => h9) rfl d_C_drop_38 ?_
        refine lv_iload_n hx hb d_C_drop_41 rfl (lv_at hl 3 rfl) ?_
        refine lv_iload_n hx hb d_C_drop_42 rfl (lv_at hl 0 rfl) ?_
        refine va_iast (n := 30) hx hb hK hP (wC_D hD) hS 2 0 rfl rfl (in_hasInHands hN c_6) d_C_drop_43 (fun H locs hP _ hS => ?_)
        have hP : va_P D classes (wC a cI cII (nI N) (nI K) (sU A 1 x.toNatClampNeg (k_holderOf N K A who))) H := hP
        refine lv_iconst (v := (1 : Int32)) hx hb d_C_drop_44 (by decide) ?_
        exact wRet (u := sU A 1 x.toNatClampNeg (k_holderOf N K A who)) hx hb hr rfl hlk (show (1 : Int32) = (k_drop N K A who x).1 ∧ sU A 1 x.toNatClampNeg (k_holderOf N K A who) = (k_drop N K A who x).2 from by rw [k_drop, if_neg c_6, if_neg c_20, if_pos c_31]; exact ⟨rfl, rfl⟩) hP hK hS d_C_drop_45
      · refine lv_bipush (v := (-7 : Int32)) hx hb d_C_drop_34 (by decide) ?_
        exact wRet (u := A) hx hb hr rfl hlk (show (-7 : Int32) = (k_drop N K A who x).1 ∧ A = (k_drop N K A who x).2 from by rw [k_drop, if_neg c_6, if_neg c_20, if_neg c_31]; exact ⟨rfl, rfl⟩) hP hK hS d_C_drop_36
    · refine lv_bipush (v := (-5 : Int32)) hx hb d_C_drop_23 (by decide) ?_
      exact wRet (u := A) hx hb hr rfl hlk (show (-5 : Int32) = (k_drop N K A who x).1 ∧ A = (k_drop N K A who x).2 from by rw [k_drop, if_neg c_6, if_pos c_20]; exact ⟨rfl, rfl⟩) hP hK hS d_C_drop_25
  · refine lv_bipush (v := (-2 : Int32)) hx hb d_C_drop_9 (by decide) ?_
    exact wRet (u := A) hx hb hr rfl hlk (show (-2 : Int32) = (k_drop N K A who x).1 ∧ A = (k_drop N K A who x).2 from by rw [k_drop, if_pos c_6]; exact ⟨rfl, rfl⟩) hP hK hS d_C_drop_11

def k_go (N K : Nat) (A : Nat → Nat → Int32) (who dr : Int32) : Int32 × (Nat → Nat → Int32) := (if (k_isPerson N K A who) = (0 : Int32) then ((-2 : Int32), A) else (if (k_isDoor N K A dr) = (0 : Int32) then ((-2 : Int32), A) else (if (A 1 who.toNatClampNeg) = (A 6 dr.toNatClampNeg) then (if (A (8 + (0 : Int32).toNatClampNeg) dr.toNatClampNeg) = (0 : Int32) then ((-6 : Int32), A) else (if (A 1 who.toNatClampNeg) = (A 6 dr.toNatClampNeg) then (A 7 dr.toNatClampNeg, sU A 1 who.toNatClampNeg (A 7 dr.toNatClampNeg)) else (A 6 dr.toNatClampNeg, sU A 1 who.toNatClampNeg (A 6 dr.toNatClampNeg)))) else (if (A 1 who.toNatClampNeg) = (A 7 dr.toNatClampNeg) then (if (A (8 + (0 : Int32).toNatClampNeg) dr.toNatClampNeg) = (0 : Int32) then ((-6 : Int32), A) else (if (A 1 who.toNatClampNeg) = (A 6 dr.toNatClampNeg) then (A 7 dr.toNatClampNeg, sU A 1 who.toNatClampNeg (A 7 dr.toNatClampNeg)) else (A 6 dr.toNatClampNeg, sU A 1 who.toNatClampNeg (A 6 dr.toNatClampNeg)))) else ((-5 : Int32), A)))))
set_option maxHeartbeats 4000000 in
set_option maxRecDepth 100000 in
theorem ck_go (l : Launch) (D : va_G) (a : Nat → Nat) (cI cII : ClassId) (N K : Nat) (A : Nat → Nat → Int32) (hN : N ≤ 30) (hKK : K ≤ 10) (Z : Nat → Prop) (who dr : Int32) : Met l y_C_go (Cond.code y_C_go b_C_go 5 (some .int) :: BW) ({ frames := 3, cells := 0, slots := 0, locals := 63 } : Room) (PcW D Z (wC a cI cII (nI N) (nI K) A) (tC cI cII) [.ref (a 0), .int who, .int dr]) (va_Qi (fun r u => r = (k_go N K A who dr).1 ∧ u = (k_go N K A who dr).2) (atW D (fun u => wC a cI cII (nI N) (nI K) u) (tC cI cII)) Z) 0 0 Z := by
  refine wStart (by decide) rfl (Nat.le_of_ble_eq_true rfl) (fun p e s m below meth c Sx hr hlk hP hK hD hS ls hl => ?_)
  obtain ⟨hx, hb, hml, hown, hts⟩ := id Sx
  have hl : lv_has ls 5 [(0, .ref (a 0)), (1, .int who), (2, .int dr)] := hl
  refine lv_aload_n hx hb d_C_go_0 rfl (lv_at hl 0 rfl) ?_
  refine lv_iload_n hx hb d_C_go_1 rfl (lv_at hl 1 rfl) ?_
  refine xro (As := [.int who]) (rest := []) Sx (ck_isPerson l D a cI cII N K A hN hKK who) v_C_isPerson ⟨rfl, rfl, Nat.le_of_ble_eq_true rfl, Nat.le_of_ble_eq_true rfl⟩ hK hP (ci := 0) (q0 := 0) rfl rfl rfl hl.1 rfl (Nat.le_of_ble_eq_true rfl) d_C_go_2 ⟨Nat.le_of_ble_eq_true rfl, Nat.le_of_ble_eq_true rfl⟩ (fun r hq => ?_)
  subst hq
  refine lv_if_eq (tgt := 16) hx hb d_C_go_5 (by decide) (fun c_5 => ?_) (fun c_5 => ?_)
  · refine lv_bipush (v := (-2 : Int32)) hx hb d_C_go_16 (by decide) ?_
    exact wRet (u := A) hx hb hr rfl hlk (show (-2 : Int32) = (k_go N K A who dr).1 ∧ A = (k_go N K A who dr).2 from by rw [k_go, if_pos c_5]; exact ⟨rfl, rfl⟩) hP hK hS d_C_go_18
  · refine lv_aload_n hx hb d_C_go_8 rfl (lv_at hl 0 rfl) ?_
    refine lv_iload_n hx hb d_C_go_9 rfl (lv_at hl 2 rfl) ?_
    refine xro (As := [.int dr]) (rest := []) Sx (ck_isDoor l D a cI cII N K A hN hKK dr) v_C_isDoor ⟨rfl, rfl, Nat.le_of_ble_eq_true rfl, Nat.le_of_ble_eq_true rfl⟩ hK hP (ci := 0) (q0 := 0) rfl rfl rfl hl.1 rfl (Nat.le_of_ble_eq_true rfl) d_C_go_10 ⟨Nat.le_of_ble_eq_true rfl, Nat.le_of_ble_eq_true rfl⟩ (fun r hq => ?_)
    subst hq
    refine lv_if_ne (tgt := 19) hx hb d_C_go_13 (by decide) (fun c_13 => ?_) (fun c_13 => ?_)
    · refine lv_aload_n hx hb d_C_go_19 rfl (lv_at hl 0 rfl) ?_
      refine va_get (D := D) (ci := 0) (v := .ref (a 2)) (C := R_C) (T := F_C) (N := 9) hx hb hts i_C hown hK hP 0 rfl rfl 2 (by decide) (hts _ fl_C_17) (fun _ h9 => h9) rfl d_C_go_20 ?_
      refine lv_iload_n hx hb d_C_go_23 rfl (lv_at hl 1 rfl) ?_
      refine va_iald (n := 30) hx hb hK hP 2 0 rfl rfl (in_isPerson hN c_5) d_C_go_24 ?_
      refine lv_istore_n (lv' := [(3, .int (A 1 who.toNatClampNeg)), (0, .ref (a 0)), (1, .int who), (2, .int dr)]) hx hb d_C_go_25 rfl hl (by decide) rfl (fun ls hl => ?_)
      refine lv_iload_n hx hb d_C_go_26 rfl (lv_at hl 0 rfl) ?_
      refine lv_aload_n hx hb d_C_go_27 rfl (lv_at hl 1 rfl) ?_
      refine va_get (D := D) (ci := 0) (v := .ref (a 8)) (C := R_C) (T := F_C) (N := 9) hx hb hts i_C hown hK hP 0 rfl rfl 5 (by decide) (hts _ fl_C_28) (fun _ h9 => h9) rfl d_C_go_28 ?_
      refine lv_iload_n hx hb d_C_go_31 rfl (lv_at hl 3 rfl) ?_
      refine va_iald (n := 10) hx hb hK hP 8 0 rfl rfl (in_isDoor hKK c_13) d_C_go_32 ?_
      refine lv_icmp_eq (tgt := 49) hx hb d_C_go_33 (by decide) (fun c_33 => ?_) (fun c_33 => ?_)
      · refine lv_aload_n hx hb d_C_go_49 rfl (lv_at hl 1 rfl) ?_
        refine va_get (D := D) (ci := 0) (v := .ref (a 10)) (C := R_C) (T := F_C) (N := 9) hx hb hts i_C hown hK hP 0 rfl rfl 7 (by decide) (hts _ fl_C_34) (fun _ h9 => h9) rfl d_C_go_50 ?_
        refine lv_iconst (v := (0 : Int32)) hx hb d_C_go_53 (by decide) ?_
        refine x_ald2 hx hb hK hP (by unfold vp_in; decide) d_C_go_54 ?_
        refine lv_iload_n hx hb d_C_go_55 rfl (lv_at hl 3 rfl) ?_
        refine va_iald (n := 10) hx hb hK hP (11 + (0 : Int32).toNatClampNeg) 0 (wC_row2 (vp_lt (by unfold vp_in; decide))) rfl (in_isDoor hKK c_13) d_C_go_56 ?_
        refine lv_if_ne (tgt := 63) hx hb d_C_go_57 (by decide) (fun c_57 => ?_) (fun c_57 => ?_)
        · refine lv_iload_n hx hb d_C_go_63 rfl (lv_at hl 0 rfl) ?_
          refine lv_aload_n hx hb d_C_go_64 rfl (lv_at hl 1 rfl) ?_
          refine va_get (D := D) (ci := 0) (v := .ref (a 8)) (C := R_C) (T := F_C) (N := 9) hx hb hts i_C hown hK hP 0 rfl rfl 5 (by decide) (hts _ fl_C_28) (fun _ h9 => h9) rfl d_C_go_65 ?_
          refine lv_iload_n hx hb d_C_go_68 rfl (lv_at hl 3 rfl) ?_
          refine va_iald (n := 10) hx hb hK hP 8 0 rfl rfl (in_isDoor hKK c_13) d_C_go_69 ?_
          refine lv_icmp_ne (tgt := 82) hx hb d_C_go_70 (by decide) (fun c_70 => ?_) (fun c_70 => ?_)
          · refine lv_aload_n hx hb d_C_go_82 rfl (lv_at hl 1 rfl) ?_
            refine va_get (D := D) (ci := 0) (v := .ref (a 8)) (C := R_C) (T := F_C) (N := 9) hx hb hts i_C hown hK hP 0 rfl rfl 5 (by decide) (hts _ fl_C_28) (fun _ h9 => h9) rfl d_C_go_83 ?_
            refine lv_iload_n hx hb d_C_go_86 rfl (lv_at hl 3 rfl) ?_
            refine va_iald (n := 10) hx hb hK hP 8 0 rfl rfl (in_isDoor hKK c_13) d_C_go_87 ?_
            refine lv_istore (lv' := [(4, .int (A 6 dr.toNatClampNeg)), (3, .int (A 1 who.toNatClampNeg)), (0, .ref (a 0)), (1, .int who), (2, .int dr)]) hx hb d_C_go_88 hl (by decide) rfl (fun ls hl => ?_)
            refine lv_aload_n hx hb d_C_go_90 rfl (lv_at hl 2 rfl) ?_
            refine va_get (D := D) (ci := 0) (v := .ref (a 2)) (C := R_C) (T := F_C) (N := 9) hx hb hts i_C hown hK hP 0 rfl rfl 2 (by decide) (hts _ fl_C_17) (fun _ h9 => h9) rfl d_C_go_91 ?_
            refine lv_iload_n hx hb d_C_go_94 rfl (lv_at hl 3 rfl) ?_
            refine lv_iload hx hb d_C_go_95 (lv_at hl 0 rfl) ?_
            refine va_iast (n := 30) hx hb hK hP (wC_D hD) hS 2 0 rfl rfl (in_isPerson hN c_5) d_C_go_97 (fun H locs hP _ hS => ?_)
            have hP : va_P D classes (wC a cI cII (nI N) (nI K) (sU A 1 who.toNatClampNeg (A 6 dr.toNatClampNeg))) H := hP
            refine lv_iload hx hb d_C_go_98 (lv_at hl 0 rfl) ?_
            exact wRet (u := sU A 1 who.toNatClampNeg (A 6 dr.toNatClampNeg)) hx hb hr rfl hlk (show A 6 dr.toNatClampNeg = (k_go N K A who dr).1 ∧ sU A 1 who.toNatClampNeg (A 6 dr.toNatClampNeg) = (k_go N K A who dr).2 from by rw [k_go, if_neg c_5, if_neg c_13, if_pos c_33, if_neg c_57, if_neg c_70]; exact ⟨rfl, rfl⟩) hP hK hS d_C_go_100
          · refine lv_aload_n hx hb d_C_go_73 rfl (lv_at hl 1 rfl) ?_
            refine va_get (D := D) (ci := 0) (v := .ref (a 9)) (C := R_C) (T := F_C) (N := 9) hx hb hts i_C hown hK hP 0 rfl rfl 6 (by decide) (hts _ fl_C_31) (fun _ h9 => h9) rfl d_C_go_74 ?_
            refine lv_iload_n hx hb d_C_go_77 rfl (lv_at hl 3 rfl) ?_
            refine va_iald (n := 10) hx hb hK hP 9 0 rfl rfl (in_isDoor hKK c_13) d_C_go_78 ?_
            refine lv_goto (tgt := 88) hx hb d_C_go_79 (by decide) ?_
            refine lv_istore (lv' := [(4, .int (A 7 dr.toNatClampNeg)), (3, .int (A 1 who.toNatClampNeg)), (0, .ref (a 0)), (1, .int who), (2, .int dr)]) hx hb d_C_go_88 hl (by decide) rfl (fun ls hl => ?_)
            refine lv_aload_n hx hb d_C_go_90 rfl (lv_at hl 2 rfl) ?_
            refine va_get (D := D) (ci := 0) (v := .ref (a 2)) (C := R_C) (T := F_C) (N := 9) hx hb hts i_C hown hK hP 0 rfl rfl 2 (by decide) (hts _ fl_C_17) (fun _ h9 => h9) rfl d_C_go_91 ?_
            refine lv_iload_n hx hb d_C_go_94 rfl (lv_at hl 3 rfl) ?_
            refine lv_iload hx hb d_C_go_95 (lv_at hl 0 rfl) ?_
            refine va_iast (n := 30) hx hb hK hP (wC_D hD) hS 2 0 rfl rfl (in_isPerson hN c_5) d_C_go_97 (fun H locs hP _ hS => ?_)
            have hP : va_P D classes (wC a cI cII (nI N) (nI K) (sU A 1 who.toNatClampNeg (A 7 dr.toNatClampNeg))) H := hP
            refine lv_iload hx hb d_C_go_98 (lv_at hl 0 rfl) ?_
            exact wRet (u := sU A 1 who.toNatClampNeg (A 7 dr.toNatClampNeg)) hx hb hr rfl hlk (show A 7 dr.toNatClampNeg = (k_go N K A who dr).1 ∧ sU A 1 who.toNatClampNeg (A 7 dr.toNatClampNeg) = (k_go N K A who dr).2 from by rw [k_go, if_neg c_5, if_neg c_13, if_pos c_33, if_neg c_57, if_pos c_70]; exact ⟨rfl, rfl⟩) hP hK hS d_C_go_100
        · refine lv_bipush (v := (-6 : Int32)) hx hb d_C_go_60 (by decide) ?_
          exact wRet (u := A) hx hb hr rfl hlk (show (-6 : Int32) = (k_go N K A who dr).1 ∧ A = (k_go N K A who dr).2 from by rw [k_go, if_neg c_5, if_neg c_13, if_pos c_33, if_pos c_57]; exact ⟨rfl, rfl⟩) hP hK hS d_C_go_62
      · refine lv_iload_n hx hb d_C_go_36 rfl (lv_at hl 0 rfl) ?_
        refine lv_aload_n hx hb d_C_go_37 rfl (lv_at hl 1 rfl) ?_
        refine va_get (D := D) (ci := 0) (v := .ref (a 9)) (C := R_C) (T := F_C) (N := 9) hx hb hts i_C hown hK hP 0 rfl rfl 6 (by decide) (hts _ fl_C_31) (fun _ h9 => h9) rfl d_C_go_38 ?_
        refine lv_iload_n hx hb d_C_go_41 rfl (lv_at hl 3 rfl) ?_
        refine va_iald (n := 10) hx hb hK hP 9 0 rfl rfl (in_isDoor hKK c_13) d_C_go_42 ?_
        refine lv_icmp_eq (tgt := 49) hx hb d_C_go_43 (by decide) (fun c_43 => ?_) (fun c_43 => ?_)
        · refine lv_aload_n hx hb d_C_go_49 rfl (lv_at hl 1 rfl) ?_
          refine va_get (D := D) (ci := 0) (v := .ref (a 10)) (C := R_C) (T := F_C) (N := 9) hx hb hts i_C hown hK hP 0 rfl rfl 7 (by decide) (hts _ fl_C_34) (fun _ h9 => h9) rfl d_C_go_50 ?_
          refine lv_iconst (v := (0 : Int32)) hx hb d_C_go_53 (by decide) ?_
          refine x_ald2 hx hb hK hP (by unfold vp_in; decide) d_C_go_54 ?_
          refine lv_iload_n hx hb d_C_go_55 rfl (lv_at hl 3 rfl) ?_
          refine va_iald (n := 10) hx hb hK hP (11 + (0 : Int32).toNatClampNeg) 0 (wC_row2 (vp_lt (by unfold vp_in; decide))) rfl (in_isDoor hKK c_13) d_C_go_56 ?_
          refine lv_if_ne (tgt := 63) hx hb d_C_go_57 (by decide) (fun c_57 => ?_) (fun c_57 => ?_)
          · refine lv_iload_n hx hb d_C_go_63 rfl (lv_at hl 0 rfl) ?_
            refine lv_aload_n hx hb d_C_go_64 rfl (lv_at hl 1 rfl) ?_
            refine va_get (D := D) (ci := 0) (v := .ref (a 8)) (C := R_C) (T := F_C) (N := 9) hx hb hts i_C hown hK hP 0 rfl rfl 5 (by decide) (hts _ fl_C_28) (fun _ h9 => h9) rfl d_C_go_65 ?_
            refine lv_iload_n hx hb d_C_go_68 rfl (lv_at hl 3 rfl) ?_
            refine va_iald (n := 10) hx hb hK hP 8 0 rfl rfl (in_isDoor hKK c_13) d_C_go_69 ?_
            refine lv_icmp_ne (tgt := 82) hx hb d_C_go_70 (by decide) (fun c_70 => ?_) (fun c_70 => ?_)
            · refine lv_aload_n hx hb d_C_go_82 rfl (lv_at hl 1 rfl) ?_
              refine va_get (D := D) (ci := 0) (v := .ref (a 8)) (C := R_C) (T := F_C) (N := 9) hx hb hts i_C hown hK hP 0 rfl rfl 5 (by decide) (hts _ fl_C_28) (fun _ h9 => h9) rfl d_C_go_83 ?_
              refine lv_iload_n hx hb d_C_go_86 rfl (lv_at hl 3 rfl) ?_
              refine va_iald (n := 10) hx hb hK hP 8 0 rfl rfl (in_isDoor hKK c_13) d_C_go_87 ?_
              refine lv_istore (lv' := [(4, .int (A 6 dr.toNatClampNeg)), (3, .int (A 1 who.toNatClampNeg)), (0, .ref (a 0)), (1, .int who), (2, .int dr)]) hx hb d_C_go_88 hl (by decide) rfl (fun ls hl => ?_)
              refine lv_aload_n hx hb d_C_go_90 rfl (lv_at hl 2 rfl) ?_
              refine va_get (D := D) (ci := 0) (v := .ref (a 2)) (C := R_C) (T := F_C) (N := 9) hx hb hts i_C hown hK hP 0 rfl rfl 2 (by decide) (hts _ fl_C_17) (fun _ h9 => h9) rfl d_C_go_91 ?_
              refine lv_iload_n hx hb d_C_go_94 rfl (lv_at hl 3 rfl) ?_
              refine lv_iload hx hb d_C_go_95 (lv_at hl 0 rfl) ?_
              refine va_iast (n := 30) hx hb hK hP (wC_D hD) hS 2 0 rfl rfl (in_isPerson hN c_5) d_C_go_97 (fun H locs hP _ hS => ?_)
              have hP : va_P D classes (wC a cI cII (nI N) (nI K) (sU A 1 who.toNatClampNeg (A 6 dr.toNatClampNeg))) H := hP
              refine lv_iload hx hb d_C_go_98 (lv_at hl 0 rfl) ?_
              exact wRet (u := sU A 1 who.toNatClampNeg (A 6 dr.toNatClampNeg)) hx hb hr rfl hlk (show A 6 dr.toNatClampNeg = (k_go N K A who dr).1 ∧ sU A 1 who.toNatClampNeg (A 6 dr.toNatClampNeg) = (k_go N K A who dr).2 from by rw [k_go, if_neg c_5, if_neg c_13, if_neg c_33, if_pos c_43, if_neg c_57, if_neg c_70]; exact ⟨rfl, rfl⟩) hP hK hS d_C_go_100
            · refine lv_aload_n hx hb d_C_go_73 rfl (lv_at hl 1 rfl) ?_
              refine va_get (D := D) (ci := 0) (v := .ref (a 9)) (C := R_C) (T := F_C) (N := 9) hx hb hts i_C hown hK hP 0 rfl rfl 6 (by decide) (hts _ fl_C_31) (fun _ h9 => h9) rfl d_C_go_74 ?_
              refine lv_iload_n hx hb d_C_go_77 rfl (lv_at hl 3 rfl) ?_
              refine va_iald (n := 10) hx hb hK hP 9 0 rfl rfl (in_isDoor hKK c_13) d_C_go_78 ?_
              refine lv_goto (tgt := 88) hx hb d_C_go_79 (by decide) ?_
              refine lv_istore (lv' := [(4, .int (A 7 dr.toNatClampNeg)), (3, .int (A 1 who.toNatClampNeg)), (0, .ref (a 0)), (1, .int who), (2, .int dr)]) hx hb d_C_go_88 hl (by decide) rfl (fun ls hl => ?_)
              refine lv_aload_n hx hb d_C_go_90 rfl (lv_at hl 2 rfl) ?_
              refine va_get (D := D) (ci := 0) (v := .ref (a 2)) (C := R_C) (T := F_C) (N := 9) hx hb hts i_C hown hK hP 0 rfl rfl 2 (by decide) (hts _ fl_C_17) (fun _ h9 => h9) rfl d_C_go_91 ?_
              refine lv_iload_n hx hb d_C_go_94 rfl (lv_at hl 3 rfl) ?_
              refine lv_iload hx hb d_C_go_95 (lv_at hl 0 rfl) ?_
              refine va_iast (n := 30) hx hb hK hP (wC_D hD) hS 2 0 rfl rfl (in_isPerson hN c_5) d_C_go_97 (fun H locs hP _ hS => ?_)
              have hP : va_P D classes (wC a cI cII (nI N) (nI K) (sU A 1 who.toNatClampNeg (A 7 dr.toNatClampNeg))) H := hP
              refine lv_iload hx hb d_C_go_98 (lv_at hl 0 rfl) ?_
              exact wRet (u := sU A 1 who.toNatClampNeg (A 7 dr.toNatClampNeg)) hx hb hr rfl hlk (show A 7 dr.toNatClampNeg = (k_go N K A who dr).1 ∧ sU A 1 who.toNatClampNeg (A 7 dr.toNatClampNeg) = (k_go N K A who dr).2 from by rw [k_go, if_neg c_5, if_neg c_13, if_neg c_33, if_pos c_43, if_neg c_57, if_pos c_70]; exact ⟨rfl, rfl⟩) hP hK hS d_C_go_100
          · refine lv_bipush (v := (-6 : Int32)) hx hb d_C_go_60 (by decide) ?_
            exact wRet (u := A) hx hb hr rfl hlk (show (-6 : Int32) = (k_go N K A who dr).1 ∧ A = (k_go N K A who dr).2 from by rw [k_go, if_neg c_5, if_neg c_13, if_neg c_33, if_pos c_43, if_pos c_57]; exact ⟨rfl, rfl⟩) hP hK hS d_C_go_62
        · refine lv_bipush (v := (-5 : Int32)) hx hb d_C_go_46 (by decide) ?_
          exact wRet (u := A) hx hb hr rfl hlk (show (-5 : Int32) = (k_go N K A who dr).1 ∧ A = (k_go N K A who dr).2 from by rw [k_go, if_neg c_5, if_neg c_13, if_neg c_33, if_neg c_43]; exact ⟨rfl, rfl⟩) hP hK hS d_C_go_48
    · refine lv_bipush (v := (-2 : Int32)) hx hb d_C_go_16 (by decide) ?_
      exact wRet (u := A) hx hb hr rfl hlk (show (-2 : Int32) = (k_go N K A who dr).1 ∧ A = (k_go N K A who dr).2 from by rw [k_go, if_neg c_5, if_pos c_13]; exact ⟨rfl, rfl⟩) hP hK hS d_C_go_18

def k_space (N K : Nat) (A : Nat → Nat → Int32) (x what : Int32) : Int32 × (Nat → Nat → Int32) := (if (k_isSpace N K A x) = (0 : Int32) then ((-2 : Int32), A) else (if what < (0 : Int32) then ((-3 : Int32), A) else (if what ≤ (1 : Int32) then ((k_fillFromAllThings N K A ((2 : Int32) + what)) 10 x.toNatClampNeg, k_fillFromAllThings N K A ((2 : Int32) + what)) else ((-3 : Int32), A))))
set_option maxHeartbeats 4000000 in
set_option maxRecDepth 100000 in
theorem ck_space (l : Launch) (D : va_G) (a : Nat → Nat) (cI cII : ClassId) (N K : Nat) (A : Nat → Nat → Int32) (hN : N ≤ 30) (hKK : K ≤ 10) (Z : Nat → Prop) (x what : Int32) : Met l y_C_space (Cond.code y_C_space b_C_space 3 (some .int) :: BW) ({ frames := 6, cells := 0, slots := 0, locals := 135 } : Room) (PcW D Z (wC a cI cII (nI N) (nI K) A) (tC cI cII) [.ref (a 0), .int x, .int what]) (va_Qi (fun r u => r = (k_space N K A x what).1 ∧ u = (k_space N K A x what).2) (atW D (fun u => wC a cI cII (nI N) (nI K) u) (tC cI cII)) Z) 0 0 Z := by
  refine wStart (by decide) rfl (Nat.le_of_ble_eq_true rfl) (fun p e s m below meth c Sx hr hlk hP hK hD hS ls hl => ?_)
  obtain ⟨hx, hb, hml, hown, hts⟩ := id Sx
  have hl : lv_has ls 3 [(0, .ref (a 0)), (1, .int x), (2, .int what)] := hl
  refine lv_aload_n hx hb d_C_space_0 rfl (lv_at hl 0 rfl) ?_
  refine lv_iload_n hx hb d_C_space_1 rfl (lv_at hl 1 rfl) ?_
  refine xro (As := [.int x]) (rest := []) Sx (ck_isSpace l D a cI cII N K A hN hKK x) v_C_isSpace ⟨rfl, rfl, Nat.le_of_ble_eq_true rfl, Nat.le_of_ble_eq_true rfl⟩ hK hP (ci := 0) (q0 := 0) rfl rfl rfl hl.1 rfl (Nat.le_of_ble_eq_true rfl) d_C_space_2 ⟨Nat.le_of_ble_eq_true rfl, Nat.le_of_ble_eq_true rfl⟩ (fun r hq => ?_)
  subst hq
  refine lv_if_ne (tgt := 11) hx hb d_C_space_5 (by decide) (fun c_5 => ?_) (fun c_5 => ?_)
  · refine lv_iload_n hx hb d_C_space_11 rfl (lv_at hl 2 rfl) ?_
    refine lv_if_lt (tgt := 20) hx hb d_C_space_12 (by decide) (fun c_12 => ?_) (fun c_12 => ?_)
    · refine lv_bipush (v := (-3 : Int32)) hx hb d_C_space_20 (by decide) ?_
      exact wRet (u := A) hx hb hr rfl hlk (show (-3 : Int32) = (k_space N K A x what).1 ∧ A = (k_space N K A x what).2 from by rw [k_space, if_neg c_5, if_pos c_12]; exact ⟨rfl, rfl⟩) hP hK hS d_C_space_22
    · refine lv_iload_n hx hb d_C_space_15 rfl (lv_at hl 2 rfl) ?_
      refine lv_iconst (v := (1 : Int32)) hx hb d_C_space_16 (by decide) ?_
      refine lv_icmp_le (tgt := 23) hx hb d_C_space_17 (by decide) (fun c_17 => ?_) (fun c_17 => ?_)
      · refine lv_aload_n hx hb d_C_space_23 rfl (lv_at hl 0 rfl) ?_
        refine lv_iconst (v := (2 : Int32)) hx hb d_C_space_24 (by decide) ?_
        refine lv_iload_n hx hb d_C_space_25 rfl (lv_at hl 2 rfl) ?_
        refine lv_iadd hx hb d_C_space_26 ?_
        refine xwv (As := [.int ((2 : Int32) + what)]) (rest := []) Sx (ck_fillFromAllThings l D a cI cII N K A hN hKK Z ((2 : Int32) + what)) v_C_fillFromAllThings ⟨rfl, rfl, Nat.le_of_ble_eq_true rfl, Nat.le_of_ble_eq_true rfl⟩ hK hP (ci := 0) (q0 := 0) rfl rfl (wC_D hD) hS (fun _ h => h) rfl hl.1 rfl (Nat.le_of_ble_eq_true rfl) d_C_space_27 ⟨Nat.le_of_ble_eq_true rfl, Nat.le_of_ble_eq_true rfl⟩ (fun u H locs hu hP hS => ?_)
        subst hu
        have hP : va_P D classes (wC a cI cII (nI N) (nI K) (k_fillFromAllThings N K A ((2 : Int32) + what))) H := hP
        refine lv_aload_n hx hb d_C_space_30 rfl (lv_at hl 0 rfl) ?_
        refine va_get (D := D) (ci := 0) (v := .ref (a 13)) (C := R_C) (T := F_C) (N := 9) hx hb hts i_C hown hK hP 0 rfl rfl 8 (by decide) (hts _ fl_C_37) (fun _ h9 => h9) rfl d_C_space_31 ?_
        refine lv_iload_n hx hb d_C_space_34 rfl (lv_at hl 1 rfl) ?_
        refine va_iald (n := 30) hx hb hK hP 13 0 rfl rfl (in_isSpace hN c_5) d_C_space_35 ?_
        exact wRet (u := k_fillFromAllThings N K A ((2 : Int32) + what)) hx hb hr rfl hlk (show (k_fillFromAllThings N K A ((2 : Int32) + what)) 10 x.toNatClampNeg = (k_space N K A x what).1 ∧ k_fillFromAllThings N K A ((2 : Int32) + what) = (k_space N K A x what).2 from by rw [k_space, if_neg c_5, if_neg c_12, if_pos c_17]; exact ⟨rfl, rfl⟩) hP hK hS d_C_space_36
      · refine lv_bipush (v := (-3 : Int32)) hx hb d_C_space_20 (by decide) ?_
        exact wRet (u := A) hx hb hr rfl hlk (show (-3 : Int32) = (k_space N K A x what).1 ∧ A = (k_space N K A x what).2 from by rw [k_space, if_neg c_5, if_neg c_12, if_neg c_17]; exact ⟨rfl, rfl⟩) hP hK hS d_C_space_22
  · refine lv_bipush (v := (-2 : Int32)) hx hb d_C_space_8 (by decide) ?_
    exact wRet (u := A) hx hb hr rfl hlk (show (-2 : Int32) = (k_space N K A x what).1 ∧ A = (k_space N K A x what).2 from by rw [k_space, if_pos c_5]; exact ⟨rfl, rfl⟩) hP hK hS d_C_space_10

def k_loses (N K : Nat) (A : Nat → Nat → Int32) (src t what : Int32) : Int32 × (Nat → Nat → Int32) := (if (k_isSpace N K A src) = (0 : Int32) then ((-2 : Int32), A) else (if (k_isSpace N K A t) = (0 : Int32) then ((-2 : Int32), A) else (if what < (0 : Int32) then ((-3 : Int32), A) else (if what ≤ (1 : Int32) then (k_lossAt N K (k_fillFromOneSpace N K A src ((2 : Int32) + what)) t, k_fillFromOneSpace N K A src ((2 : Int32) + what)) else ((-3 : Int32), A)))))
set_option maxHeartbeats 4000000 in
set_option maxRecDepth 100000 in
theorem ck_loses (l : Launch) (D : va_G) (a : Nat → Nat) (cI cII : ClassId) (N K : Nat) (A : Nat → Nat → Int32) (hN : N ≤ 30) (hKK : K ≤ 10) (Z : Nat → Prop) (src t what : Int32) : Met l y_C_loses (Cond.code y_C_loses b_C_loses 4 (some .int) :: BW) ({ frames := 6, cells := 0, slots := 0, locals := 134 } : Room) (PcW D Z (wC a cI cII (nI N) (nI K) A) (tC cI cII) [.ref (a 0), .int src, .int t, .int what]) (va_Qi (fun r u => r = (k_loses N K A src t what).1 ∧ u = (k_loses N K A src t what).2) (atW D (fun u => wC a cI cII (nI N) (nI K) u) (tC cI cII)) Z) 0 0 Z := by
  refine wStart (by decide) rfl (Nat.le_of_ble_eq_true rfl) (fun p e s m below meth c Sx hr hlk hP hK hD hS ls hl => ?_)
  obtain ⟨hx, hb, hml, hown, hts⟩ := id Sx
  have hl : lv_has ls 4 [(0, .ref (a 0)), (1, .int src), (2, .int t), (3, .int what)] := hl
  refine lv_aload_n hx hb d_C_loses_0 rfl (lv_at hl 0 rfl) ?_
  refine lv_iload_n hx hb d_C_loses_1 rfl (lv_at hl 1 rfl) ?_
  refine xro (As := [.int src]) (rest := []) Sx (ck_isSpace l D a cI cII N K A hN hKK src) v_C_isSpace ⟨rfl, rfl, Nat.le_of_ble_eq_true rfl, Nat.le_of_ble_eq_true rfl⟩ hK hP (ci := 0) (q0 := 0) rfl rfl rfl hl.1 rfl (Nat.le_of_ble_eq_true rfl) d_C_loses_2 ⟨Nat.le_of_ble_eq_true rfl, Nat.le_of_ble_eq_true rfl⟩ (fun r hq => ?_)
  subst hq
  refine lv_if_eq (tgt := 16) hx hb d_C_loses_5 (by decide) (fun c_5 => ?_) (fun c_5 => ?_)
  · refine lv_bipush (v := (-2 : Int32)) hx hb d_C_loses_16 (by decide) ?_
    exact wRet (u := A) hx hb hr rfl hlk (show (-2 : Int32) = (k_loses N K A src t what).1 ∧ A = (k_loses N K A src t what).2 from by rw [k_loses, if_pos c_5]; exact ⟨rfl, rfl⟩) hP hK hS d_C_loses_18
  · refine lv_aload_n hx hb d_C_loses_8 rfl (lv_at hl 0 rfl) ?_
    refine lv_iload_n hx hb d_C_loses_9 rfl (lv_at hl 2 rfl) ?_
    refine xro (As := [.int t]) (rest := []) Sx (ck_isSpace l D a cI cII N K A hN hKK t) v_C_isSpace ⟨rfl, rfl, Nat.le_of_ble_eq_true rfl, Nat.le_of_ble_eq_true rfl⟩ hK hP (ci := 0) (q0 := 0) rfl rfl rfl hl.1 rfl (Nat.le_of_ble_eq_true rfl) d_C_loses_10 ⟨Nat.le_of_ble_eq_true rfl, Nat.le_of_ble_eq_true rfl⟩ (fun r hq => ?_)
    subst hq
    refine lv_if_ne (tgt := 19) hx hb d_C_loses_13 (by decide) (fun c_13 => ?_) (fun c_13 => ?_)
    · refine lv_iload_n hx hb d_C_loses_19 rfl (lv_at hl 3 rfl) ?_
      refine lv_if_lt (tgt := 28) hx hb d_C_loses_20 (by decide) (fun c_20 => ?_) (fun c_20 => ?_)
      · refine lv_bipush (v := (-3 : Int32)) hx hb d_C_loses_28 (by decide) ?_
        exact wRet (u := A) hx hb hr rfl hlk (show (-3 : Int32) = (k_loses N K A src t what).1 ∧ A = (k_loses N K A src t what).2 from by rw [k_loses, if_neg c_5, if_neg c_13, if_pos c_20]; exact ⟨rfl, rfl⟩) hP hK hS d_C_loses_30
      · refine lv_iload_n hx hb d_C_loses_23 rfl (lv_at hl 3 rfl) ?_
        refine lv_iconst (v := (1 : Int32)) hx hb d_C_loses_24 (by decide) ?_
        refine lv_icmp_le (tgt := 31) hx hb d_C_loses_25 (by decide) (fun c_25 => ?_) (fun c_25 => ?_)
        · refine lv_aload_n hx hb d_C_loses_31 rfl (lv_at hl 0 rfl) ?_
          refine lv_iload_n hx hb d_C_loses_32 rfl (lv_at hl 1 rfl) ?_
          refine lv_iconst (v := (2 : Int32)) hx hb d_C_loses_33 (by decide) ?_
          refine lv_iload_n hx hb d_C_loses_34 rfl (lv_at hl 3 rfl) ?_
          refine lv_iadd hx hb d_C_loses_35 ?_
          refine xwv (As := [.int src, .int ((2 : Int32) + what)]) (rest := []) Sx (ck_fillFromOneSpace l D a cI cII N K A hN hKK Z src ((2 : Int32) + what)) v_C_fillFromOneSpace ⟨rfl, rfl, Nat.le_of_ble_eq_true rfl, Nat.le_of_ble_eq_true rfl⟩ hK hP (ci := 0) (q0 := 0) rfl rfl (wC_D hD) hS (fun _ h => h) rfl hl.1 rfl (Nat.le_of_ble_eq_true rfl) d_C_loses_36 ⟨Nat.le_of_ble_eq_true rfl, Nat.le_of_ble_eq_true rfl⟩ (fun u H locs hu hP hS => ?_)
          subst hu
          have hP : va_P D classes (wC a cI cII (nI N) (nI K) (k_fillFromOneSpace N K A src ((2 : Int32) + what))) H := hP
          refine lv_aload_n hx hb d_C_loses_39 rfl (lv_at hl 0 rfl) ?_
          refine lv_iload_n hx hb d_C_loses_40 rfl (lv_at hl 2 rfl) ?_
          refine xro (As := [.int t]) (rest := []) Sx (ck_lossAt l D a cI cII N K (k_fillFromOneSpace N K A src ((2 : Int32) + what)) hN hKK t) v_C_lossAt ⟨rfl, rfl, Nat.le_of_ble_eq_true rfl, Nat.le_of_ble_eq_true rfl⟩ hK hP (ci := 0) (q0 := 0) rfl rfl rfl hl.1 rfl (Nat.le_of_ble_eq_true rfl) d_C_loses_41 ⟨Nat.le_of_ble_eq_true rfl, Nat.le_of_ble_eq_true rfl⟩ (fun r hq => ?_)
          subst hq
          exact wRet (u := k_fillFromOneSpace N K A src ((2 : Int32) + what)) hx hb hr rfl hlk (show k_lossAt N K (k_fillFromOneSpace N K A src ((2 : Int32) + what)) t = (k_loses N K A src t what).1 ∧ k_fillFromOneSpace N K A src ((2 : Int32) + what) = (k_loses N K A src t what).2 from by rw [k_loses, if_neg c_5, if_neg c_13, if_neg c_20, if_pos c_25]; exact ⟨rfl, rfl⟩) hP hK hS d_C_loses_44
        · refine lv_bipush (v := (-3 : Int32)) hx hb d_C_loses_28 (by decide) ?_
          exact wRet (u := A) hx hb hr rfl hlk (show (-3 : Int32) = (k_loses N K A src t what).1 ∧ A = (k_loses N K A src t what).2 from by rw [k_loses, if_neg c_5, if_neg c_13, if_neg c_20, if_neg c_25]; exact ⟨rfl, rfl⟩) hP hK hS d_C_loses_30
    · refine lv_bipush (v := (-2 : Int32)) hx hb d_C_loses_16 (by decide) ?_
      exact wRet (u := A) hx hb hr rfl hlk (show (-2 : Int32) = (k_loses N K A src t what).1 ∧ A = (k_loses N K A src t what).2 from by rw [k_loses, if_neg c_5, if_pos c_13]; exact ⟨rfl, rfl⟩) hP hK hS d_C_loses_18

def k_sees (N K : Nat) (A : Nat → Nat → Int32) (who x : Int32) : Int32 × (Nat → Nat → Int32) := (if (k_isPerson N K A who) = (0 : Int32) then ((-2 : Int32), A) else (if (k_isThing N K A x) = (0 : Int32) then ((-2 : Int32), A) else (if who = x then ((0 : Int32), A) else (if (k_isSeen N K (k_fillFromAllThings N K A (2 : Int32)) x (k_viewOf N K (k_fillFromAllThings N K A (2 : Int32)) who)) = (0 : Int32) then ((0 : Int32), k_fillFromAllThings N K A (2 : Int32)) else ((1 : Int32), k_fillFromAllThings N K A (2 : Int32))))))
set_option maxHeartbeats 4000000 in
set_option maxRecDepth 100000 in
theorem ck_sees (l : Launch) (D : va_G) (a : Nat → Nat) (cI cII : ClassId) (N K : Nat) (A : Nat → Nat → Int32) (hN : N ≤ 30) (hKK : K ≤ 10) (Z : Nat → Prop) (who x : Int32) : Met l y_C_sees (Cond.code y_C_sees b_C_sees 3 (some .int) :: BW) ({ frames := 6, cells := 0, slots := 0, locals := 136 } : Room) (PcW D Z (wC a cI cII (nI N) (nI K) A) (tC cI cII) [.ref (a 0), .int who, .int x]) (va_Qi (fun r u => r = (k_sees N K A who x).1 ∧ u = (k_sees N K A who x).2) (atW D (fun u => wC a cI cII (nI N) (nI K) u) (tC cI cII)) Z) 0 0 Z := by
  refine wStart (by decide) rfl (Nat.le_of_ble_eq_true rfl) (fun p e s m below meth c Sx hr hlk hP hK hD hS ls hl => ?_)
  obtain ⟨hx, hb, hml, hown, hts⟩ := id Sx
  have hl : lv_has ls 3 [(0, .ref (a 0)), (1, .int who), (2, .int x)] := hl
  refine lv_aload_n hx hb d_C_sees_0 rfl (lv_at hl 0 rfl) ?_
  refine lv_iload_n hx hb d_C_sees_1 rfl (lv_at hl 1 rfl) ?_
  refine xro (As := [.int who]) (rest := []) Sx (ck_isPerson l D a cI cII N K A hN hKK who) v_C_isPerson ⟨rfl, rfl, Nat.le_of_ble_eq_true rfl, Nat.le_of_ble_eq_true rfl⟩ hK hP (ci := 0) (q0 := 0) rfl rfl rfl hl.1 rfl (Nat.le_of_ble_eq_true rfl) d_C_sees_2 ⟨Nat.le_of_ble_eq_true rfl, Nat.le_of_ble_eq_true rfl⟩ (fun r hq => ?_)
  subst hq
  refine lv_if_eq (tgt := 16) hx hb d_C_sees_5 (by decide) (fun c_5 => ?_) (fun c_5 => ?_)
  · refine lv_bipush (v := (-2 : Int32)) hx hb d_C_sees_16 (by decide) ?_
    exact wRet (u := A) hx hb hr rfl hlk (show (-2 : Int32) = (k_sees N K A who x).1 ∧ A = (k_sees N K A who x).2 from by rw [k_sees, if_pos c_5]; exact ⟨rfl, rfl⟩) hP hK hS d_C_sees_18
  · refine lv_aload_n hx hb d_C_sees_8 rfl (lv_at hl 0 rfl) ?_
    refine lv_iload_n hx hb d_C_sees_9 rfl (lv_at hl 2 rfl) ?_
    refine xro (As := [.int x]) (rest := []) Sx (ck_isThing l D a cI cII N K A hN hKK x) v_C_isThing ⟨rfl, rfl, Nat.le_of_ble_eq_true rfl, Nat.le_of_ble_eq_true rfl⟩ hK hP (ci := 0) (q0 := 0) rfl rfl rfl hl.1 rfl (Nat.le_of_ble_eq_true rfl) d_C_sees_10 ⟨Nat.le_of_ble_eq_true rfl, Nat.le_of_ble_eq_true rfl⟩ (fun r hq => ?_)
    subst hq
    refine lv_if_ne (tgt := 19) hx hb d_C_sees_13 (by decide) (fun c_13 => ?_) (fun c_13 => ?_)
    · refine lv_iload_n hx hb d_C_sees_19 rfl (lv_at hl 1 rfl) ?_
      refine lv_iload_n hx hb d_C_sees_20 rfl (lv_at hl 2 rfl) ?_
      refine lv_icmp_ne (tgt := 26) hx hb d_C_sees_21 (by decide) (fun c_21 => ?_) (fun c_21 => ?_)
      · refine lv_aload_n hx hb d_C_sees_26 rfl (lv_at hl 0 rfl) ?_
        refine lv_iconst (v := (2 : Int32)) hx hb d_C_sees_27 (by decide) ?_
        refine xwv (As := [.int (2 : Int32)]) (rest := []) Sx (ck_fillFromAllThings l D a cI cII N K A hN hKK Z (2 : Int32)) v_C_fillFromAllThings ⟨rfl, rfl, Nat.le_of_ble_eq_true rfl, Nat.le_of_ble_eq_true rfl⟩ hK hP (ci := 0) (q0 := 0) rfl rfl (wC_D hD) hS (fun _ h => h) rfl hl.1 rfl (Nat.le_of_ble_eq_true rfl) d_C_sees_28 ⟨Nat.le_of_ble_eq_true rfl, Nat.le_of_ble_eq_true rfl⟩ (fun u H locs hu hP hS => ?_)
        subst hu
        have hP : va_P D classes (wC a cI cII (nI N) (nI K) (k_fillFromAllThings N K A (2 : Int32))) H := hP
        refine lv_aload_n hx hb d_C_sees_31 rfl (lv_at hl 0 rfl) ?_
        refine lv_iload_n hx hb d_C_sees_32 rfl (lv_at hl 2 rfl) ?_
        refine lv_aload_n hx hb d_C_sees_33 rfl (lv_at hl 0 rfl) ?_
        refine lv_iload_n hx hb d_C_sees_34 rfl (lv_at hl 1 rfl) ?_
        refine xro (As := [.int who]) (rest := [.int x, .ref (a 0)]) Sx (ck_viewOf l D a cI cII N K (k_fillFromAllThings N K A (2 : Int32)) hN hKK who) v_C_viewOf ⟨rfl, rfl, Nat.le_of_ble_eq_true rfl, Nat.le_of_ble_eq_true rfl⟩ hK hP (ci := 0) (q0 := 0) rfl rfl rfl hl.1 rfl (Nat.le_of_ble_eq_true rfl) d_C_sees_35 ⟨Nat.le_of_ble_eq_true rfl, Nat.le_of_ble_eq_true rfl⟩ (fun r hq => ?_)
        subst hq
        refine xro (As := [.int x, .int (k_viewOf N K (k_fillFromAllThings N K A (2 : Int32)) who)]) (rest := []) Sx (ck_isSeen l D a cI cII N K (k_fillFromAllThings N K A (2 : Int32)) hN hKK x (k_viewOf N K (k_fillFromAllThings N K A (2 : Int32)) who)) v_C_isSeen ⟨rfl, rfl, Nat.le_of_ble_eq_true rfl, Nat.le_of_ble_eq_true rfl⟩ hK hP (ci := 0) (q0 := 0) rfl rfl rfl hl.1 rfl (Nat.le_of_ble_eq_true rfl) d_C_sees_38 ⟨Nat.le_of_ble_eq_true rfl, Nat.le_of_ble_eq_true rfl⟩ (fun r hq => ?_)
        subst hq
        refine lv_if_eq (tgt := 48) hx hb d_C_sees_41 (by decide) (fun c_41 => ?_) (fun c_41 => ?_)
        · refine lv_iconst (v := (0 : Int32)) hx hb d_C_sees_48 (by decide) ?_
          exact wRet (u := k_fillFromAllThings N K A (2 : Int32)) hx hb hr rfl hlk (show (0 : Int32) = (k_sees N K A who x).1 ∧ k_fillFromAllThings N K A (2 : Int32) = (k_sees N K A who x).2 from by rw [k_sees, if_neg c_5, if_neg c_13, if_neg c_21, if_pos c_41]; exact ⟨rfl, rfl⟩) hP hK hS d_C_sees_49
        · refine lv_iconst (v := (1 : Int32)) hx hb d_C_sees_44 (by decide) ?_
          refine lv_goto (tgt := 49) hx hb d_C_sees_45 (by decide) ?_
          exact wRet (u := k_fillFromAllThings N K A (2 : Int32)) hx hb hr rfl hlk (show (1 : Int32) = (k_sees N K A who x).1 ∧ k_fillFromAllThings N K A (2 : Int32) = (k_sees N K A who x).2 from by rw [k_sees, if_neg c_5, if_neg c_13, if_neg c_21, if_neg c_41]; exact ⟨rfl, rfl⟩) hP hK hS d_C_sees_49
      · refine lv_iconst (v := (0 : Int32)) hx hb d_C_sees_24 (by decide) ?_
        exact wRet (u := A) hx hb hr rfl hlk (show (0 : Int32) = (k_sees N K A who x).1 ∧ A = (k_sees N K A who x).2 from by rw [k_sees, if_neg c_5, if_neg c_13, if_pos c_21]; exact ⟨rfl, rfl⟩) hP hK hS d_C_sees_25
    · refine lv_bipush (v := (-2 : Int32)) hx hb d_C_sees_16 (by decide) ?_
      exact wRet (u := A) hx hb hr rfl hlk (show (-2 : Int32) = (k_sees N K A who x).1 ∧ A = (k_sees N K A who x).2 from by rw [k_sees, if_neg c_5, if_pos c_13]; exact ⟨rfl, rfl⟩) hP hK hS d_C_sees_18

def k_scope_28 (N K : Nat) (who ix u3 : Int32) : Nat → Nat → (Nat → Nat → Int32) → Int32 → Int32 × (Nat → Nat → Int32)
  | 0, i, A1, v4 => ((-1 : Int32), A1)
  | k + 1, i, A1, v4 => (if (nI i) = who then k_scope_28 N K who ix u3 k (i + 1) A1 v4 else (if (k_isSeen N K A1 (nI i) u3) = (0 : Int32) then (if (k_firstBarrier N K A1 who (nI i)) = (-1 : Int32) then (if v4 = ix then (nI i, A1) else k_scope_28 N K who ix u3 k (i + 1) A1 (v4 + 1)) else k_scope_28 N K who ix u3 k (i + 1) A1 v4) else (if v4 = ix then (nI i, A1) else k_scope_28 N K who ix u3 k (i + 1) A1 (v4 + 1))))
theorem k_scope_28_0 (N K : Nat) (who ix u3 : Int32) (i : Nat) (A1 : (Nat → Nat → Int32)) (v4 : Int32) : k_scope_28 N K who ix u3 0 i A1 v4 = ((-1 : Int32), A1) := rfl
theorem k_scope_28_S (N K : Nat) (who ix u3 : Int32) (k i : Nat) (A1 : (Nat → Nat → Int32)) (v4 : Int32) : k_scope_28 N K who ix u3 (k + 1) i A1 v4 = (if (nI i) = who then k_scope_28 N K who ix u3 k (i + 1) A1 v4 else (if (k_isSeen N K A1 (nI i) u3) = (0 : Int32) then (if (k_firstBarrier N K A1 who (nI i)) = (-1 : Int32) then (if v4 = ix then (nI i, A1) else k_scope_28 N K who ix u3 k (i + 1) A1 (v4 + 1)) else k_scope_28 N K who ix u3 k (i + 1) A1 v4) else (if v4 = ix then (nI i, A1) else k_scope_28 N K who ix u3 k (i + 1) A1 (v4 + 1)))) := rfl
set_option maxHeartbeats 4000000 in
set_option maxRecDepth 100000 in
theorem wk_scope_28 (l : Launch) (D : va_G) (a : Nat → Nat) (cI cII : ClassId) (N K : Nat) (A : Nat → Nat → Int32) (hN : N ≤ 30) (hKK : K ≤ 10) (Z : Nat → Prop) (who ix u3 : Int32) {p : Program} {e : Env} {s : State} {m : MethodId} {below : List Frame} {meth : Method} {c : Code} (Sx : CallFix p m c b_C_scope 6 s ([.ref (a 0), .int who, .int ix] : List Value).toArray BW R_C) (hr : meth.sig.returnType = (some .int)) (hlk : meth.locks = false) (hD : va_D Z (wC a cI cII (nI N) (nI K) A)) (hK : va_K D classes (tC cI cII) s) : ∀ (k i : Nat), i + k = N → ∀ (A1 : (Nat → Nat → Int32)) (v4 : Int32) (H : Heap) (locs : List Loc) (ls : Array Slot), va_P D classes (wC a cI cII (nI N) (nI K) A1) H → va_S Z s.heap H locs → lv_has ls 6 [(0, .ref (a 0)), (1, .int who), (2, .int ix), (3, .int u3), (4, .int v4), (5, .int (nI i))] → W p l e ({ frames := 6, cells := 0, slots := 0, locals := 136 } : Room) s m ([.ref (a 0), .int who, .int ix] : List Value).toArray below meth c H locs 0 0 (MQ below (va_Qi (fun r u => r = (k_scope_28 N K who ix u3 k i A1 v4).1 ∧ u = (k_scope_28 N K who ix u3 k i A1 v4).2) (atW D (fun u => wC a cI cII (nI N) (nI K) u) (tC cI cII)) Z) ([.ref (a 0), .int who, .int ix] : List Value).toArray s 0 0 Z) (F0 m 28 ls []) := by
  obtain ⟨hx, hb, hml, hown, hts⟩ := id Sx
  intro k
  induction k with
  | zero =>
    intro i hi A1 v4 H locs ls hP hS hl
    refine lv_iload hx hb d_C_scope_28 (lv_at hl 5 rfl) ?_
    refine lv_aload_n hx hb d_C_scope_30 rfl (lv_at hl 0 rfl) ?_
    refine va_get (D := D) (ci := 0) (v := .int (nI N)) (C := R_C) (T := F_C) (N := 9) hx hb hts i_C hown hK hP 0 rfl rfl 0 (by decide) (hts _ fl_C_7) (fun _ h9 => h9) rfl d_C_scope_31 ?_
    refine lv_icmp_ge (tgt := 82) hx hb d_C_scope_34 (by decide) (fun c_34 => ?_) (fun c_34 => absurd (nI_le (a := N) (b := i) (by omega) (by omega)) c_34)
    refine lv_iconst (v := (-1 : Int32)) hx hb d_C_scope_82 (by decide) ?_
    exact wRet (u := A1) hx hb hr rfl hlk (show (-1 : Int32) = (k_scope_28 N K who ix u3 0 i A1 v4).1 ∧ A1 = (k_scope_28 N K who ix u3 0 i A1 v4).2 from by rw [k_scope_28_0]; exact ⟨rfl, rfl⟩) hP hK hS d_C_scope_83
  | succ k ih =>
    intro i hi A1 v4 H locs ls hP hS hl
    refine lv_iload hx hb d_C_scope_28 (lv_at hl 5 rfl) ?_
    refine lv_aload_n hx hb d_C_scope_30 rfl (lv_at hl 0 rfl) ?_
    refine va_get (D := D) (ci := 0) (v := .int (nI N)) (C := R_C) (T := F_C) (N := 9) hx hb hts i_C hown hK hP 0 rfl rfl 0 (by decide) (hts _ fl_C_7) (fun _ h9 => h9) rfl d_C_scope_31 ?_
    refine lv_icmp_ge (tgt := 82) hx hb d_C_scope_34 (by decide) (fun c_34 => absurd c_34 (nI_ge (a := i) (b := N) (by omega) (by omega))) (fun c_34 => ?_)
    refine lv_iload hx hb d_C_scope_37 (lv_at hl 5 rfl) ?_
    refine lv_iload_n hx hb d_C_scope_39 rfl (lv_at hl 1 rfl) ?_
    refine lv_icmp_eq (tgt := 76) hx hb d_C_scope_40 (by decide) (fun c_40 => ?_) (fun c_40 => ?_)
    · refine lv_iinc (v := nI (i + 1)) (lv' := [(5, .int (nI (i + 1))), (0, .ref (a 0)), (1, .int who), (2, .int ix), (3, .int u3), (4, .int v4)]) hx hb d_C_scope_76 hl (k := 5) rfl (nI_1 i) (by decide) rfl (fun ls hl => ?_)
      refine lv_goto (tgt := 28) hx hb d_C_scope_79 (by decide) ?_
      have e_b : k_scope_28 N K who ix u3 (k + 1) i A1 v4 = k_scope_28 N K who ix u3 k (i + 1) A1 v4 := by rw [k_scope_28_S, if_pos c_40]
      rw [e_b]
      exact ih (i + 1) (by omega) A1 v4 _ _ ls hP hS (lv_sub hl [1, 2, 3, 4, 5, 0] rfl)
    · refine lv_aload_n hx hb d_C_scope_43 rfl (lv_at hl 0 rfl) ?_
      refine lv_iload hx hb d_C_scope_44 (lv_at hl 5 rfl) ?_
      refine lv_iload_n hx hb d_C_scope_46 rfl (lv_at hl 3 rfl) ?_
      refine xro (As := [.int (nI i), .int u3]) (rest := []) Sx (ck_isSeen l D a cI cII N K A1 hN hKK (nI i) u3) v_C_isSeen ⟨rfl, rfl, Nat.le_of_ble_eq_true rfl, Nat.le_of_ble_eq_true rfl⟩ hK hP (ci := 0) (q0 := 0) rfl rfl rfl hl.1 rfl (Nat.le_of_ble_eq_true rfl) d_C_scope_47 ⟨Nat.le_of_ble_eq_true rfl, Nat.le_of_ble_eq_true rfl⟩ (fun r hq => ?_)
      subst hq
      refine lv_if_ne (tgt := 64) hx hb d_C_scope_50 (by decide) (fun c_50 => ?_) (fun c_50 => ?_)
      · refine lv_iload hx hb d_C_scope_64 (lv_at hl 4 rfl) ?_
        refine lv_iload_n hx hb d_C_scope_66 rfl (lv_at hl 2 rfl) ?_
        refine lv_icmp_ne (tgt := 73) hx hb d_C_scope_67 (by decide) (fun c_67 => ?_) (fun c_67 => ?_)
        · refine lv_iinc (v := v4 + 1) (lv' := [(4, .int (v4 + 1)), (0, .ref (a 0)), (1, .int who), (2, .int ix), (3, .int u3), (5, .int (nI i))]) hx hb d_C_scope_73 hl (k := 4) rfl (rfl) (by decide) rfl (fun ls hl => ?_)
          refine lv_iinc (v := nI (i + 1)) (lv' := [(5, .int (nI (i + 1))), (4, .int (v4 + 1)), (0, .ref (a 0)), (1, .int who), (2, .int ix), (3, .int u3)]) hx hb d_C_scope_76 hl (k := 5) rfl (nI_1 i) (by decide) rfl (fun ls hl => ?_)
          refine lv_goto (tgt := 28) hx hb d_C_scope_79 (by decide) ?_
          have e_b : k_scope_28 N K who ix u3 (k + 1) i A1 v4 = k_scope_28 N K who ix u3 k (i + 1) A1 (v4 + 1) := by rw [k_scope_28_S, if_neg c_40, if_neg c_50, if_neg c_67]
          rw [e_b]
          exact ih (i + 1) (by omega) A1 (v4 + 1) _ _ ls hP hS (lv_sub hl [2, 3, 4, 5, 1, 0] rfl)
        · refine lv_iload hx hb d_C_scope_70 (lv_at hl 5 rfl) ?_
          exact wRet (u := A1) hx hb hr rfl hlk (show nI i = (k_scope_28 N K who ix u3 (k + 1) i A1 v4).1 ∧ A1 = (k_scope_28 N K who ix u3 (k + 1) i A1 v4).2 from by rw [k_scope_28_S, if_neg c_40, if_neg c_50, if_pos c_67]; exact ⟨rfl, rfl⟩) hP hK hS d_C_scope_72
      · refine lv_aload_n hx hb d_C_scope_53 rfl (lv_at hl 0 rfl) ?_
        refine lv_iload_n hx hb d_C_scope_54 rfl (lv_at hl 1 rfl) ?_
        refine lv_iload hx hb d_C_scope_55 (lv_at hl 5 rfl) ?_
        refine xro (As := [.int who, .int (nI i)]) (rest := []) Sx (ck_firstBarrier l D a cI cII N K A1 hN hKK who (nI i)) v_C_firstBarrier ⟨rfl, rfl, Nat.le_of_ble_eq_true rfl, Nat.le_of_ble_eq_true rfl⟩ hK hP (ci := 0) (q0 := 0) rfl rfl rfl hl.1 rfl (Nat.le_of_ble_eq_true rfl) d_C_scope_57 ⟨Nat.le_of_ble_eq_true rfl, Nat.le_of_ble_eq_true rfl⟩ (fun r hq => ?_)
        subst hq
        refine lv_iconst (v := (-1 : Int32)) hx hb d_C_scope_60 (by decide) ?_
        refine lv_icmp_ne (tgt := 76) hx hb d_C_scope_61 (by decide) (fun c_61 => ?_) (fun c_61 => ?_)
        · refine lv_iinc (v := nI (i + 1)) (lv' := [(5, .int (nI (i + 1))), (0, .ref (a 0)), (1, .int who), (2, .int ix), (3, .int u3), (4, .int v4)]) hx hb d_C_scope_76 hl (k := 5) rfl (nI_1 i) (by decide) rfl (fun ls hl => ?_)
          refine lv_goto (tgt := 28) hx hb d_C_scope_79 (by decide) ?_
          have e_b : k_scope_28 N K who ix u3 (k + 1) i A1 v4 = k_scope_28 N K who ix u3 k (i + 1) A1 v4 := by rw [k_scope_28_S, if_neg c_40, if_pos c_50, if_neg c_61]
          rw [e_b]
          exact ih (i + 1) (by omega) A1 v4 _ _ ls hP hS (lv_sub hl [1, 2, 3, 4, 5, 0] rfl)
        · refine lv_iload hx hb d_C_scope_64 (lv_at hl 4 rfl) ?_
          refine lv_iload_n hx hb d_C_scope_66 rfl (lv_at hl 2 rfl) ?_
          refine lv_icmp_ne (tgt := 73) hx hb d_C_scope_67 (by decide) (fun c_67 => ?_) (fun c_67 => ?_)
          · refine lv_iinc (v := v4 + 1) (lv' := [(4, .int (v4 + 1)), (0, .ref (a 0)), (1, .int who), (2, .int ix), (3, .int u3), (5, .int (nI i))]) hx hb d_C_scope_73 hl (k := 4) rfl (rfl) (by decide) rfl (fun ls hl => ?_)
            refine lv_iinc (v := nI (i + 1)) (lv' := [(5, .int (nI (i + 1))), (4, .int (v4 + 1)), (0, .ref (a 0)), (1, .int who), (2, .int ix), (3, .int u3)]) hx hb d_C_scope_76 hl (k := 5) rfl (nI_1 i) (by decide) rfl (fun ls hl => ?_)
            refine lv_goto (tgt := 28) hx hb d_C_scope_79 (by decide) ?_
            have e_b : k_scope_28 N K who ix u3 (k + 1) i A1 v4 = k_scope_28 N K who ix u3 k (i + 1) A1 (v4 + 1) := by rw [k_scope_28_S, if_neg c_40, if_pos c_50, if_pos c_61, if_neg c_67]
            rw [e_b]
            exact ih (i + 1) (by omega) A1 (v4 + 1) _ _ ls hP hS (lv_sub hl [2, 3, 4, 5, 1, 0] rfl)
          · refine lv_iload hx hb d_C_scope_70 (lv_at hl 5 rfl) ?_
            exact wRet (u := A1) hx hb hr rfl hlk (show nI i = (k_scope_28 N K who ix u3 (k + 1) i A1 v4).1 ∧ A1 = (k_scope_28 N K who ix u3 (k + 1) i A1 v4).2 from by rw [k_scope_28_S, if_neg c_40, if_pos c_50, if_pos c_61, if_pos c_67]; exact ⟨rfl, rfl⟩) hP hK hS d_C_scope_72
def k_scope (N K : Nat) (A : Nat → Nat → Int32) (who ix : Int32) : Int32 × (Nat → Nat → Int32) := (if (k_isPerson N K A who) = (0 : Int32) then ((-2 : Int32), A) else k_scope_28 N K who ix (k_viewOf N K (k_fillFromAllThings N K A (2 : Int32)) who) N 0 (k_fillFromAllThings N K A (2 : Int32)) (0 : Int32))
set_option maxHeartbeats 4000000 in
set_option maxRecDepth 100000 in
theorem ck_scope (l : Launch) (D : va_G) (a : Nat → Nat) (cI cII : ClassId) (N K : Nat) (A : Nat → Nat → Int32) (hN : N ≤ 30) (hKK : K ≤ 10) (Z : Nat → Prop) (who ix : Int32) : Met l y_C_scope (Cond.code y_C_scope b_C_scope 6 (some .int) :: BW) ({ frames := 6, cells := 0, slots := 0, locals := 136 } : Room) (PcW D Z (wC a cI cII (nI N) (nI K) A) (tC cI cII) [.ref (a 0), .int who, .int ix]) (va_Qi (fun r u => r = (k_scope N K A who ix).1 ∧ u = (k_scope N K A who ix).2) (atW D (fun u => wC a cI cII (nI N) (nI K) u) (tC cI cII)) Z) 0 0 Z := by
  refine wStart (by decide) rfl (Nat.le_of_ble_eq_true rfl) (fun p e s m below meth c Sx hr hlk hP hK hD hS ls hl => ?_)
  obtain ⟨hx, hb, hml, hown, hts⟩ := id Sx
  have hl : lv_has ls 6 [(0, .ref (a 0)), (1, .int who), (2, .int ix)] := hl
  refine lv_aload_n hx hb d_C_scope_0 rfl (lv_at hl 0 rfl) ?_
  refine lv_iload_n hx hb d_C_scope_1 rfl (lv_at hl 1 rfl) ?_
  refine xro (As := [.int who]) (rest := []) Sx (ck_isPerson l D a cI cII N K A hN hKK who) v_C_isPerson ⟨rfl, rfl, Nat.le_of_ble_eq_true rfl, Nat.le_of_ble_eq_true rfl⟩ hK hP (ci := 0) (q0 := 0) rfl rfl rfl hl.1 rfl (Nat.le_of_ble_eq_true rfl) d_C_scope_2 ⟨Nat.le_of_ble_eq_true rfl, Nat.le_of_ble_eq_true rfl⟩ (fun r hq => ?_)
  subst hq
  refine lv_if_ne (tgt := 11) hx hb d_C_scope_5 (by decide) (fun c_5 => ?_) (fun c_5 => ?_)
  · refine lv_aload_n hx hb d_C_scope_11 rfl (lv_at hl 0 rfl) ?_
    refine lv_iconst (v := (2 : Int32)) hx hb d_C_scope_12 (by decide) ?_
    refine xwv (As := [.int (2 : Int32)]) (rest := []) Sx (ck_fillFromAllThings l D a cI cII N K A hN hKK Z (2 : Int32)) v_C_fillFromAllThings ⟨rfl, rfl, Nat.le_of_ble_eq_true rfl, Nat.le_of_ble_eq_true rfl⟩ hK hP (ci := 0) (q0 := 0) rfl rfl (wC_D hD) hS (fun _ h => h) rfl hl.1 rfl (Nat.le_of_ble_eq_true rfl) d_C_scope_13 ⟨Nat.le_of_ble_eq_true rfl, Nat.le_of_ble_eq_true rfl⟩ (fun u H locs hu hP hS => ?_)
    subst hu
    have hP : va_P D classes (wC a cI cII (nI N) (nI K) (k_fillFromAllThings N K A (2 : Int32))) H := hP
    refine lv_aload_n hx hb d_C_scope_16 rfl (lv_at hl 0 rfl) ?_
    refine lv_iload_n hx hb d_C_scope_17 rfl (lv_at hl 1 rfl) ?_
    refine xro (As := [.int who]) (rest := []) Sx (ck_viewOf l D a cI cII N K (k_fillFromAllThings N K A (2 : Int32)) hN hKK who) v_C_viewOf ⟨rfl, rfl, Nat.le_of_ble_eq_true rfl, Nat.le_of_ble_eq_true rfl⟩ hK hP (ci := 0) (q0 := 0) rfl rfl rfl hl.1 rfl (Nat.le_of_ble_eq_true rfl) d_C_scope_18 ⟨Nat.le_of_ble_eq_true rfl, Nat.le_of_ble_eq_true rfl⟩ (fun r hq => ?_)
    subst hq
    refine lv_istore_n (lv' := [(3, .int (k_viewOf N K (k_fillFromAllThings N K A (2 : Int32)) who)), (0, .ref (a 0)), (1, .int who), (2, .int ix)]) hx hb d_C_scope_21 rfl hl (by decide) rfl (fun ls hl => ?_)
    refine lv_iconst (v := (0 : Int32)) hx hb d_C_scope_22 (by decide) ?_
    refine lv_istore (lv' := [(4, .int (0 : Int32)), (3, .int (k_viewOf N K (k_fillFromAllThings N K A (2 : Int32)) who)), (0, .ref (a 0)), (1, .int who), (2, .int ix)]) hx hb d_C_scope_23 hl (by decide) rfl (fun ls hl => ?_)
    refine lv_iconst (v := (0 : Int32)) hx hb d_C_scope_25 (by decide) ?_
    refine lv_istore (lv' := [(5, .int (0 : Int32)), (4, .int (0 : Int32)), (3, .int (k_viewOf N K (k_fillFromAllThings N K A (2 : Int32)) who)), (0, .ref (a 0)), (1, .int who), (2, .int ix)]) hx hb d_C_scope_26 hl (by decide) rfl (fun ls hl => ?_)
    have e_28 : k_scope N K A who ix = k_scope_28 N K who ix (k_viewOf N K (k_fillFromAllThings N K A (2 : Int32)) who) N 0 (k_fillFromAllThings N K A (2 : Int32)) (0 : Int32) := by rw [k_scope, if_neg c_5]
    rw [e_28]
    exact wk_scope_28 l D a cI cII N K (k_fillFromAllThings N K A (2 : Int32)) hN hKK Z who ix (k_viewOf N K (k_fillFromAllThings N K A (2 : Int32)) who) Sx hr hlk (wC_D hD) hK N 0 (by omega) (k_fillFromAllThings N K A (2 : Int32)) (0 : Int32) _ _ ls hP hS (lv_sub hl [3, 4, 5, 2, 1, 0] rfl)
  · refine lv_bipush (v := (-2 : Int32)) hx hb d_C_scope_8 (by decide) ?_
    exact wRet (u := A) hx hb hr rfl hlk (show (-2 : Int32) = (k_scope N K A who ix).1 ∧ A = (k_scope N K A who ix).2 from by rw [k_scope, if_pos c_5]; exact ⟨rfl, rfl⟩) hP hK hS d_C_scope_10

def k_hears_38 (N K : Nat) (who : Int32) : Nat → Nat → (Nat → Nat → Int32) → Int32 → Int32 → Int32 × (Nat → Nat → Int32)
  | 0, i, A1, v3, v4 => (v3, A1)
  | k + 1, i, A1, v3, v4 => (if (nI i) = who then (if (0 : Int32) ≤ v4 then k_hears_38 N K who k (i + 1) A1 v3 v4 else k_hears_38 N K who k (i + 1) A1 (nI i) (0 : Int32)) else (if (k_partHeardOf N K A1 (nI i)) ≤ v4 then k_hears_38 N K who k (i + 1) A1 v3 v4 else k_hears_38 N K who k (i + 1) A1 (nI i) (k_partHeardOf N K A1 (nI i))))
theorem k_hears_38_0 (N K : Nat) (who : Int32) (i : Nat) (A1 : (Nat → Nat → Int32)) (v3 v4 : Int32) : k_hears_38 N K who 0 i A1 v3 v4 = (v3, A1) := rfl
theorem k_hears_38_S (N K : Nat) (who : Int32) (k i : Nat) (A1 : (Nat → Nat → Int32)) (v3 v4 : Int32) : k_hears_38 N K who (k + 1) i A1 v3 v4 = (if (nI i) = who then (if (0 : Int32) ≤ v4 then k_hears_38 N K who k (i + 1) A1 v3 v4 else k_hears_38 N K who k (i + 1) A1 (nI i) (0 : Int32)) else (if (k_partHeardOf N K A1 (nI i)) ≤ v4 then k_hears_38 N K who k (i + 1) A1 v3 v4 else k_hears_38 N K who k (i + 1) A1 (nI i) (k_partHeardOf N K A1 (nI i)))) := rfl
set_option maxHeartbeats 4000000 in
set_option maxRecDepth 100000 in
theorem wk_hears_38 (l : Launch) (D : va_G) (a : Nat → Nat) (cI cII : ClassId) (N K : Nat) (A : Nat → Nat → Int32) (hN : N ≤ 30) (hKK : K ≤ 10) (Z : Nat → Prop) (who u2 : Int32) {p : Program} {e : Env} {s : State} {m : MethodId} {below : List Frame} {meth : Method} {c : Code} (Sx : CallFix p m c b_C_hears 7 s ([.ref (a 0), .int who] : List Value).toArray BW R_C) (hr : meth.sig.returnType = (some .int)) (hlk : meth.locks = false) (hD : va_D Z (wC a cI cII (nI N) (nI K) A)) (hK : va_K D classes (tC cI cII) s) : ∀ (k i : Nat), i + k = N → ∀ (A1 : (Nat → Nat → Int32)) (v3 v4 : Int32) (H : Heap) (locs : List Loc) (ls : Array Slot), va_P D classes (wC a cI cII (nI N) (nI K) A1) H → va_S Z s.heap H locs → lv_has ls 7 [(0, .ref (a 0)), (1, .int who), (2, .int u2), (3, .int v3), (4, .int v4), (5, .int (nI i))] → W p l e ({ frames := 6, cells := 0, slots := 0, locals := 134 } : Room) s m ([.ref (a 0), .int who] : List Value).toArray below meth c H locs 0 0 (MQ below (va_Qi (fun r u => r = (k_hears_38 N K who k i A1 v3 v4).1 ∧ u = (k_hears_38 N K who k i A1 v3 v4).2) (atW D (fun u => wC a cI cII (nI N) (nI K) u) (tC cI cII)) Z) ([.ref (a 0), .int who] : List Value).toArray s 0 0 Z) (F0 m 38 ls []) := by
  obtain ⟨hx, hb, hml, hown, hts⟩ := id Sx
  intro k
  induction k with
  | zero =>
    intro i hi A1 v3 v4 H locs ls hP hS hl
    refine lv_iload hx hb d_C_hears_38 (lv_at hl 5 rfl) ?_
    refine lv_aload_n hx hb d_C_hears_40 rfl (lv_at hl 0 rfl) ?_
    refine va_get (D := D) (ci := 0) (v := .int (nI N)) (C := R_C) (T := F_C) (N := 9) hx hb hts i_C hown hK hP 0 rfl rfl 0 (by decide) (hts _ fl_C_7) (fun _ h9 => h9) rfl d_C_hears_41 ?_
    refine lv_icmp_ge (tgt := 85) hx hb d_C_hears_44 (by decide) (fun c_44 => ?_) (fun c_44 => absurd (nI_le (a := N) (b := i) (by omega) (by omega)) c_44)
    refine lv_iload_n hx hb d_C_hears_85 rfl (lv_at hl 3 rfl) ?_
    exact wRet (u := A1) hx hb hr rfl hlk (show v3 = (k_hears_38 N K who 0 i A1 v3 v4).1 ∧ A1 = (k_hears_38 N K who 0 i A1 v3 v4).2 from by rw [k_hears_38_0]; exact ⟨rfl, rfl⟩) hP hK hS d_C_hears_86
  | succ k ih =>
    intro i hi A1 v3 v4 H locs ls hP hS hl
    refine lv_iload hx hb d_C_hears_38 (lv_at hl 5 rfl) ?_
    refine lv_aload_n hx hb d_C_hears_40 rfl (lv_at hl 0 rfl) ?_
    refine va_get (D := D) (ci := 0) (v := .int (nI N)) (C := R_C) (T := F_C) (N := 9) hx hb hts i_C hown hK hP 0 rfl rfl 0 (by decide) (hts _ fl_C_7) (fun _ h9 => h9) rfl d_C_hears_41 ?_
    refine lv_icmp_ge (tgt := 85) hx hb d_C_hears_44 (by decide) (fun c_44 => absurd c_44 (nI_ge (a := i) (b := N) (by omega) (by omega))) (fun c_44 => ?_)
    refine lv_iload hx hb d_C_hears_47 (lv_at hl 5 rfl) ?_
    refine lv_iload_n hx hb d_C_hears_49 rfl (lv_at hl 1 rfl) ?_
    refine lv_icmp_ne (tgt := 57) hx hb d_C_hears_50 (by decide) (fun c_50 => ?_) (fun c_50 => ?_)
    · refine lv_aload_n hx hb d_C_hears_57 rfl (lv_at hl 0 rfl) ?_
      refine lv_iload hx hb d_C_hears_58 (lv_at hl 5 rfl) ?_
      refine xro (As := [.int (nI i)]) (rest := []) Sx (ck_partHeardOf l D a cI cII N K A1 hN hKK (nI i)) v_C_partHeardOf ⟨rfl, rfl, Nat.le_of_ble_eq_true rfl, Nat.le_of_ble_eq_true rfl⟩ hK hP (ci := 0) (q0 := 0) rfl rfl rfl hl.1 rfl (Nat.le_of_ble_eq_true rfl) d_C_hears_60 ⟨Nat.le_of_ble_eq_true rfl, Nat.le_of_ble_eq_true rfl⟩ (fun r hq => ?_)
      subst hq
      refine lv_istore (lv' := [(6, .int (k_partHeardOf N K A1 (nI i))), (0, .ref (a 0)), (1, .int who), (2, .int u2), (3, .int v3), (4, .int v4), (5, .int (nI i))]) hx hb d_C_hears_63 hl (by decide) rfl (fun ls hl => ?_)
      refine lv_iload hx hb d_C_hears_65 (lv_at hl 0 rfl) ?_
      refine lv_iload hx hb d_C_hears_67 (lv_at hl 5 rfl) ?_
      refine lv_icmp_le (tgt := 79) hx hb d_C_hears_69 (by decide) (fun c_69 => ?_) (fun c_69 => ?_)
      · refine lv_iinc (v := nI (i + 1)) (lv' := [(5, .int (nI (i + 1))), (6, .int (k_partHeardOf N K A1 (nI i))), (0, .ref (a 0)), (1, .int who), (2, .int u2), (3, .int v3), (4, .int v4)]) hx hb d_C_hears_79 hl (k := 6) rfl (nI_1 i) (by decide) rfl (fun ls hl => ?_)
        refine lv_goto (tgt := 38) hx hb d_C_hears_82 (by decide) ?_
        have e_b : k_hears_38 N K who (k + 1) i A1 v3 v4 = k_hears_38 N K who k (i + 1) A1 v3 v4 := by rw [k_hears_38_S, if_neg c_50, if_pos c_69]
        rw [e_b]
        exact ih (i + 1) (by omega) A1 v3 v4 _ _ ls hP hS (lv_sub hl [2, 3, 4, 5, 6, 0] rfl)
      · refine lv_iload hx hb d_C_hears_72 (lv_at hl 0 rfl) ?_
        refine lv_istore (lv' := [(4, .int (k_partHeardOf N K A1 (nI i))), (6, .int (k_partHeardOf N K A1 (nI i))), (0, .ref (a 0)), (1, .int who), (2, .int u2), (3, .int v3), (5, .int (nI i))]) hx hb d_C_hears_74 hl (by decide) rfl (fun ls hl => ?_)
        refine lv_iload hx hb d_C_hears_76 (lv_at hl 6 rfl) ?_
        refine lv_istore_n (lv' := [(3, .int (nI i)), (4, .int (k_partHeardOf N K A1 (nI i))), (6, .int (k_partHeardOf N K A1 (nI i))), (0, .ref (a 0)), (1, .int who), (2, .int u2), (5, .int (nI i))]) hx hb d_C_hears_78 rfl hl (by decide) rfl (fun ls hl => ?_)
        refine lv_iinc (v := nI (i + 1)) (lv' := [(5, .int (nI (i + 1))), (3, .int (nI i)), (4, .int (k_partHeardOf N K A1 (nI i))), (6, .int (k_partHeardOf N K A1 (nI i))), (0, .ref (a 0)), (1, .int who), (2, .int u2)]) hx hb d_C_hears_79 hl (k := 6) rfl (nI_1 i) (by decide) rfl (fun ls hl => ?_)
        refine lv_goto (tgt := 38) hx hb d_C_hears_82 (by decide) ?_
        have e_b : k_hears_38 N K who (k + 1) i A1 v3 v4 = k_hears_38 N K who k (i + 1) A1 (nI i) (k_partHeardOf N K A1 (nI i)) := by rw [k_hears_38_S, if_neg c_50, if_neg c_69]
        rw [e_b]
        exact ih (i + 1) (by omega) A1 (nI i) (k_partHeardOf N K A1 (nI i)) _ _ ls hP hS (lv_sub hl [4, 5, 6, 1, 2, 0] rfl)
    · refine lv_iconst (v := (0 : Int32)) hx hb d_C_hears_53 (by decide) ?_
      refine lv_goto (tgt := 63) hx hb d_C_hears_54 (by decide) ?_
      refine lv_istore (lv' := [(6, .int (0 : Int32)), (0, .ref (a 0)), (1, .int who), (2, .int u2), (3, .int v3), (4, .int v4), (5, .int (nI i))]) hx hb d_C_hears_63 hl (by decide) rfl (fun ls hl => ?_)
      refine lv_iload hx hb d_C_hears_65 (lv_at hl 0 rfl) ?_
      refine lv_iload hx hb d_C_hears_67 (lv_at hl 5 rfl) ?_
      refine lv_icmp_le (tgt := 79) hx hb d_C_hears_69 (by decide) (fun c_69 => ?_) (fun c_69 => ?_)
      · refine lv_iinc (v := nI (i + 1)) (lv' := [(5, .int (nI (i + 1))), (6, .int (0 : Int32)), (0, .ref (a 0)), (1, .int who), (2, .int u2), (3, .int v3), (4, .int v4)]) hx hb d_C_hears_79 hl (k := 6) rfl (nI_1 i) (by decide) rfl (fun ls hl => ?_)
        refine lv_goto (tgt := 38) hx hb d_C_hears_82 (by decide) ?_
        have e_b : k_hears_38 N K who (k + 1) i A1 v3 v4 = k_hears_38 N K who k (i + 1) A1 v3 v4 := by rw [k_hears_38_S, if_pos c_50, if_pos c_69]
        rw [e_b]
        exact ih (i + 1) (by omega) A1 v3 v4 _ _ ls hP hS (lv_sub hl [2, 3, 4, 5, 6, 0] rfl)
      · refine lv_iload hx hb d_C_hears_72 (lv_at hl 0 rfl) ?_
        refine lv_istore (lv' := [(4, .int (0 : Int32)), (6, .int (0 : Int32)), (0, .ref (a 0)), (1, .int who), (2, .int u2), (3, .int v3), (5, .int (nI i))]) hx hb d_C_hears_74 hl (by decide) rfl (fun ls hl => ?_)
        refine lv_iload hx hb d_C_hears_76 (lv_at hl 6 rfl) ?_
        refine lv_istore_n (lv' := [(3, .int (nI i)), (4, .int (0 : Int32)), (6, .int (0 : Int32)), (0, .ref (a 0)), (1, .int who), (2, .int u2), (5, .int (nI i))]) hx hb d_C_hears_78 rfl hl (by decide) rfl (fun ls hl => ?_)
        refine lv_iinc (v := nI (i + 1)) (lv' := [(5, .int (nI (i + 1))), (3, .int (nI i)), (4, .int (0 : Int32)), (6, .int (0 : Int32)), (0, .ref (a 0)), (1, .int who), (2, .int u2)]) hx hb d_C_hears_79 hl (k := 6) rfl (nI_1 i) (by decide) rfl (fun ls hl => ?_)
        refine lv_goto (tgt := 38) hx hb d_C_hears_82 (by decide) ?_
        have e_b : k_hears_38 N K who (k + 1) i A1 v3 v4 = k_hears_38 N K who k (i + 1) A1 (nI i) (0 : Int32) := by rw [k_hears_38_S, if_pos c_50, if_neg c_69]
        rw [e_b]
        exact ih (i + 1) (by omega) A1 (nI i) (0 : Int32) _ _ ls hP hS (lv_sub hl [4, 5, 6, 1, 2, 0] rfl)
def k_hears (N K : Nat) (A : Nat → Nat → Int32) (who : Int32) : Int32 × (Nat → Nat → Int32) := (if (k_isPerson N K A who) = (0 : Int32) then ((-2 : Int32), A) else (if (k_spaceOf N K A who) = (-1 : Int32) then ((-1 : Int32), A) else k_hears_38 N K who N 0 (k_fillFromOneSpace N K A (k_spaceOf N K A who) (3 : Int32)) (-1 : Int32) (0 : Int32)))
set_option maxHeartbeats 4000000 in
set_option maxRecDepth 100000 in
theorem ck_hears (l : Launch) (D : va_G) (a : Nat → Nat) (cI cII : ClassId) (N K : Nat) (A : Nat → Nat → Int32) (hN : N ≤ 30) (hKK : K ≤ 10) (Z : Nat → Prop) (who : Int32) : Met l y_C_hears (Cond.code y_C_hears b_C_hears 7 (some .int) :: BW) ({ frames := 6, cells := 0, slots := 0, locals := 134 } : Room) (PcW D Z (wC a cI cII (nI N) (nI K) A) (tC cI cII) [.ref (a 0), .int who]) (va_Qi (fun r u => r = (k_hears N K A who).1 ∧ u = (k_hears N K A who).2) (atW D (fun u => wC a cI cII (nI N) (nI K) u) (tC cI cII)) Z) 0 0 Z := by
  refine wStart (by decide) rfl (Nat.le_of_ble_eq_true rfl) (fun p e s m below meth c Sx hr hlk hP hK hD hS ls hl => ?_)
  obtain ⟨hx, hb, hml, hown, hts⟩ := id Sx
  have hl : lv_has ls 7 [(0, .ref (a 0)), (1, .int who)] := hl
  refine lv_aload_n hx hb d_C_hears_0 rfl (lv_at hl 0 rfl) ?_
  refine lv_iload_n hx hb d_C_hears_1 rfl (lv_at hl 1 rfl) ?_
  refine xro (As := [.int who]) (rest := []) Sx (ck_isPerson l D a cI cII N K A hN hKK who) v_C_isPerson ⟨rfl, rfl, Nat.le_of_ble_eq_true rfl, Nat.le_of_ble_eq_true rfl⟩ hK hP (ci := 0) (q0 := 0) rfl rfl rfl hl.1 rfl (Nat.le_of_ble_eq_true rfl) d_C_hears_2 ⟨Nat.le_of_ble_eq_true rfl, Nat.le_of_ble_eq_true rfl⟩ (fun r hq => ?_)
  subst hq
  refine lv_if_ne (tgt := 11) hx hb d_C_hears_5 (by decide) (fun c_5 => ?_) (fun c_5 => ?_)
  · refine lv_aload_n hx hb d_C_hears_11 rfl (lv_at hl 0 rfl) ?_
    refine lv_iload_n hx hb d_C_hears_12 rfl (lv_at hl 1 rfl) ?_
    refine xro (As := [.int who]) (rest := []) Sx (ck_spaceOf l D a cI cII N K A hN hKK who) v_C_spaceOf ⟨rfl, rfl, Nat.le_of_ble_eq_true rfl, Nat.le_of_ble_eq_true rfl⟩ hK hP (ci := 0) (q0 := 0) rfl rfl rfl hl.1 rfl (Nat.le_of_ble_eq_true rfl) d_C_hears_13 ⟨Nat.le_of_ble_eq_true rfl, Nat.le_of_ble_eq_true rfl⟩ (fun r hq => ?_)
    subst hq
    refine lv_istore_n (lv' := [(2, .int (k_spaceOf N K A who)), (0, .ref (a 0)), (1, .int who)]) hx hb d_C_hears_16 rfl hl (by decide) rfl (fun ls hl => ?_)
    refine lv_iload_n hx hb d_C_hears_17 rfl (lv_at hl 0 rfl) ?_
    refine lv_iconst (v := (-1 : Int32)) hx hb d_C_hears_18 (by decide) ?_
    refine lv_icmp_ne (tgt := 24) hx hb d_C_hears_19 (by decide) (fun c_19 => ?_) (fun c_19 => ?_)
    · refine lv_aload_n hx hb d_C_hears_24 rfl (lv_at hl 1 rfl) ?_
      refine lv_iload_n hx hb d_C_hears_25 rfl (lv_at hl 0 rfl) ?_
      refine lv_iconst (v := (3 : Int32)) hx hb d_C_hears_26 (by decide) ?_
      refine xwv (As := [.int (k_spaceOf N K A who), .int (3 : Int32)]) (rest := []) Sx (ck_fillFromOneSpace l D a cI cII N K A hN hKK Z (k_spaceOf N K A who) (3 : Int32)) v_C_fillFromOneSpace ⟨rfl, rfl, Nat.le_of_ble_eq_true rfl, Nat.le_of_ble_eq_true rfl⟩ hK hP (ci := 0) (q0 := 0) rfl rfl (wC_D hD) hS (fun _ h => h) rfl hl.1 rfl (Nat.le_of_ble_eq_true rfl) d_C_hears_27 ⟨Nat.le_of_ble_eq_true rfl, Nat.le_of_ble_eq_true rfl⟩ (fun u H locs hu hP hS => ?_)
      subst hu
      have hP : va_P D classes (wC a cI cII (nI N) (nI K) (k_fillFromOneSpace N K A (k_spaceOf N K A who) (3 : Int32))) H := hP
      refine lv_iconst (v := (-1 : Int32)) hx hb d_C_hears_30 (by decide) ?_
      refine lv_istore_n (lv' := [(3, .int (-1 : Int32)), (2, .int (k_spaceOf N K A who)), (0, .ref (a 0)), (1, .int who)]) hx hb d_C_hears_31 rfl hl (by decide) rfl (fun ls hl => ?_)
      refine lv_iconst (v := (0 : Int32)) hx hb d_C_hears_32 (by decide) ?_
      refine lv_istore (lv' := [(4, .int (0 : Int32)), (3, .int (-1 : Int32)), (2, .int (k_spaceOf N K A who)), (0, .ref (a 0)), (1, .int who)]) hx hb d_C_hears_33 hl (by decide) rfl (fun ls hl => ?_)
      refine lv_iconst (v := (0 : Int32)) hx hb d_C_hears_35 (by decide) ?_
      refine lv_istore (lv' := [(5, .int (0 : Int32)), (4, .int (0 : Int32)), (3, .int (-1 : Int32)), (2, .int (k_spaceOf N K A who)), (0, .ref (a 0)), (1, .int who)]) hx hb d_C_hears_36 hl (by decide) rfl (fun ls hl => ?_)
      have e_38 : k_hears N K A who = k_hears_38 N K who N 0 (k_fillFromOneSpace N K A (k_spaceOf N K A who) (3 : Int32)) (-1 : Int32) (0 : Int32) := by rw [k_hears, if_neg c_5, if_neg c_19]
      rw [e_38]
      exact wk_hears_38 l D a cI cII N K (k_fillFromOneSpace N K A (k_spaceOf N K A who) (3 : Int32)) hN hKK Z who (k_spaceOf N K A who) Sx hr hlk (wC_D hD) hK N 0 (by omega) (k_fillFromOneSpace N K A (k_spaceOf N K A who) (3 : Int32)) (-1 : Int32) (0 : Int32) _ _ ls hP hS (lv_sub hl [4, 5, 3, 2, 1, 0] rfl)
    · refine lv_iconst (v := (-1 : Int32)) hx hb d_C_hears_22 (by decide) ?_
      exact wRet (u := A) hx hb hr rfl hlk (show (-1 : Int32) = (k_hears N K A who).1 ∧ A = (k_hears N K A who).2 from by rw [k_hears, if_neg c_5, if_pos c_19]; exact ⟨rfl, rfl⟩) hP hK hS d_C_hears_23
  · refine lv_bipush (v := (-2 : Int32)) hx hb d_C_hears_8 (by decide) ?_
    exact wRet (u := A) hx hb hr rfl hlk (show (-2 : Int32) = (k_hears N K A who).1 ∧ A = (k_hears N K A who).2 from by rw [k_hears, if_pos c_5]; exact ⟨rfl, rfl⟩) hP hK hS d_C_hears_10
