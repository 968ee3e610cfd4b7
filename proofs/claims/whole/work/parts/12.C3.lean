def k_spreadOver (N K : Nat) (A : Nat → Nat → Int32) (x y loss : Int32) : Int32 × (Nat → Nat → Int32) := (if (k_isThing N K A x) = (0 : Int32) then ((0 : Int32), A) else (if (k_isThing N K A y) = (0 : Int32) then ((0 : Int32), A) else (if ((A 10 x.toNatClampNeg) - loss) ≤ (A 10 y.toNatClampNeg) then (if ((A 10 y.toNatClampNeg) - loss) ≤ (A 10 x.toNatClampNeg) then ((0 : Int32), A) else ((1 : Int32), sU A 10 x.toNatClampNeg ((A 10 y.toNatClampNeg) - loss))) else ((1 : Int32), sU A 10 y.toNatClampNeg ((A 10 x.toNatClampNeg) - loss)))))
set_option maxHeartbeats 4000000 in
set_option maxRecDepth 100000 in
theorem ck_spreadOver (l : Launch) (D : va_G) (a : Nat → Nat) (cI cII : ClassId) (N K : Nat) (A : Nat → Nat → Int32) (hN : N ≤ 30) (hKK : K ≤ 10) (Z : Nat → Prop) (x y loss : Int32) : Met l y_C_spreadOver (Cond.code y_C_spreadOver b_C_spreadOver 4 (some .boolean) :: BW) ({ frames := 1, cells := 0, slots := 0, locals := 21 } : Room) (PcW D Z (wC a cI cII (nI N) (nI K) A) (tC cI cII) [.ref (a 0), .int x, .int y, .int loss]) (va_Qi (fun r u => r = (k_spreadOver N K A x y loss).1 ∧ u = (k_spreadOver N K A x y loss).2) (atW D (fun u => wC a cI cII (nI N) (nI K) u) (tC cI cII)) Z) 0 0 Z := by
  refine wStart (by decide) rfl (Nat.le_of_ble_eq_true rfl) (fun p e s m below meth c Sx hr hlk hP hK hD hS ls hl => ?_)
  obtain ⟨hx, hb, hml, hown, hts⟩ := id Sx
  have hl : lv_has ls 4 [(0, .ref (a 0)), (1, .int x), (2, .int y), (3, .int loss)] := hl
  refine lv_aload_n hx hb d_C_spreadOver_0 rfl (lv_at hl 0 rfl) ?_
  refine lv_iload_n hx hb d_C_spreadOver_1 rfl (lv_at hl 1 rfl) ?_
  refine xro (As := [.int x]) (rest := []) Sx (ck_isThing l D a cI cII N K A hN hKK x) v_C_isThing ⟨rfl, rfl, Nat.le_of_ble_eq_true rfl, Nat.le_of_ble_eq_true rfl⟩ hK hP (ci := 0) (q0 := 0) rfl rfl rfl hl.1 rfl (Nat.le_of_ble_eq_true rfl) d_C_spreadOver_2 ⟨Nat.le_of_ble_eq_true rfl, Nat.le_of_ble_eq_true rfl⟩ (fun r hq => ?_)
  subst hq
  refine lv_if_eq (tgt := 16) hx hb d_C_spreadOver_5 (by decide) (fun c_5 => ?_) (fun c_5 => ?_)
  · refine lv_iconst (v := (0 : Int32)) hx hb d_C_spreadOver_16 (by decide) ?_
    exact wRet (u := A) hx hb hr (by first | rfl | decide) hlk (show (0 : Int32) = (k_spreadOver N K A x y loss).1 ∧ A = (k_spreadOver N K A x y loss).2 from by rw [k_spreadOver, if_pos c_5]; exact ⟨rfl, rfl⟩) hP hK hS d_C_spreadOver_17
  · refine lv_aload_n hx hb d_C_spreadOver_8 rfl (lv_at hl 0 rfl) ?_
    refine lv_iload_n hx hb d_C_spreadOver_9 rfl (lv_at hl 2 rfl) ?_
    refine xro (As := [.int y]) (rest := []) Sx (ck_isThing l D a cI cII N K A hN hKK y) v_C_isThing ⟨rfl, rfl, Nat.le_of_ble_eq_true rfl, Nat.le_of_ble_eq_true rfl⟩ hK hP (ci := 0) (q0 := 0) rfl rfl rfl hl.1 rfl (Nat.le_of_ble_eq_true rfl) d_C_spreadOver_10 ⟨Nat.le_of_ble_eq_true rfl, Nat.le_of_ble_eq_true rfl⟩ (fun r hq => ?_)
    subst hq
    refine lv_if_ne (tgt := 18) hx hb d_C_spreadOver_13 (by decide) (fun c_13 => ?_) (fun c_13 => ?_)
    · refine lv_aload_n hx hb d_C_spreadOver_18 rfl (lv_at hl 0 rfl) ?_
      refine va_get (D := D) (ci := 0) (v := .ref (a 13)) (C := R_C) (T := F_C) (N := 9) hx hb hts i_C hown hK hP 0 rfl rfl 8 (by decide) (hts _ fl_C_37) (fun _ h9 => h9) rfl d_C_spreadOver_19 ?_
      refine lv_iload_n hx hb d_C_spreadOver_22 rfl (lv_at hl 1 rfl) ?_
      refine va_iald (n := 30) hx hb hK hP 13 0 rfl rfl (in_isThing hN c_5) d_C_spreadOver_23 ?_
      refine lv_iload_n hx hb d_C_spreadOver_24 rfl (lv_at hl 3 rfl) ?_
      refine lv_isub hx hb d_C_spreadOver_25 ?_
      refine lv_aload_n hx hb d_C_spreadOver_26 rfl (lv_at hl 0 rfl) ?_
      refine va_get (D := D) (ci := 0) (v := .ref (a 13)) (C := R_C) (T := F_C) (N := 9) hx hb hts i_C hown hK hP 0 rfl rfl 8 (by decide) (hts _ fl_C_37) (fun _ h9 => h9) rfl d_C_spreadOver_27 ?_
      refine lv_iload_n hx hb d_C_spreadOver_30 rfl (lv_at hl 2 rfl) ?_
      refine va_iald (n := 30) hx hb hK hP 13 0 rfl rfl (in_isThing hN c_13) d_C_spreadOver_31 ?_
      refine lv_icmp_le (tgt := 51) hx hb d_C_spreadOver_32 (by decide) (fun c_32 => ?_) (fun c_32 => ?_)
      · refine lv_aload_n hx hb d_C_spreadOver_51 rfl (lv_at hl 0 rfl) ?_
        refine va_get (D := D) (ci := 0) (v := .ref (a 13)) (C := R_C) (T := F_C) (N := 9) hx hb hts i_C hown hK hP 0 rfl rfl 8 (by decide) (hts _ fl_C_37) (fun _ h9 => h9) rfl d_C_spreadOver_52 ?_
        refine lv_iload_n hx hb d_C_spreadOver_55 rfl (lv_at hl 2 rfl) ?_
        refine va_iald (n := 30) hx hb hK hP 13 0 rfl rfl (in_isThing hN c_13) d_C_spreadOver_56 ?_
        refine lv_iload_n hx hb d_C_spreadOver_57 rfl (lv_at hl 3 rfl) ?_
        refine lv_isub hx hb d_C_spreadOver_58 ?_
        refine lv_aload_n hx hb d_C_spreadOver_59 rfl (lv_at hl 0 rfl) ?_
        refine va_get (D := D) (ci := 0) (v := .ref (a 13)) (C := R_C) (T := F_C) (N := 9) hx hb hts i_C hown hK hP 0 rfl rfl 8 (by decide) (hts _ fl_C_37) (fun _ h9 => h9) rfl d_C_spreadOver_60 ?_
        refine lv_iload_n hx hb d_C_spreadOver_63 rfl (lv_at hl 1 rfl) ?_
        refine va_iald (n := 30) hx hb hK hP 13 0 rfl rfl (in_isThing hN c_5) d_C_spreadOver_64 ?_
        refine lv_icmp_le (tgt := 84) hx hb d_C_spreadOver_65 (by decide) (fun c_65 => ?_) (fun c_65 => ?_)
        · refine lv_iconst (v := (0 : Int32)) hx hb d_C_spreadOver_84 (by decide) ?_
          exact wRet (u := A) hx hb hr (by first | rfl | decide) hlk (show (0 : Int32) = (k_spreadOver N K A x y loss).1 ∧ A = (k_spreadOver N K A x y loss).2 from by rw [k_spreadOver, if_neg c_5, if_neg c_13, if_pos c_32, if_pos c_65]; exact ⟨rfl, rfl⟩) hP hK hS d_C_spreadOver_85
        · refine lv_aload_n hx hb d_C_spreadOver_68 rfl (lv_at hl 0 rfl) ?_
          refine va_get (D := D) (ci := 0) (v := .ref (a 13)) (C := R_C) (T := F_C) (N := 9) hx hb hts i_C hown hK hP 0 rfl rfl 8 (by decide) (hts _ fl_C_37) (fun _ h9 => h9) rfl d_C_spreadOver_69 ?_
          refine lv_iload_n hx hb d_C_spreadOver_72 rfl (lv_at hl 1 rfl) ?_
          refine lv_aload_n hx hb d_C_spreadOver_73 rfl (lv_at hl 0 rfl) ?_
          refine va_get (D := D) (ci := 0) (v := .ref (a 13)) (C := R_C) (T := F_C) (N := 9) hx hb hts i_C hown hK hP 0 rfl rfl 8 (by decide) (hts _ fl_C_37) (fun _ h9 => h9) rfl d_C_spreadOver_74 ?_
          refine lv_iload_n hx hb d_C_spreadOver_77 rfl (lv_at hl 2 rfl) ?_
          refine va_iald (n := 30) hx hb hK hP 13 0 rfl rfl (in_isThing hN c_13) d_C_spreadOver_78 ?_
          refine lv_iload_n hx hb d_C_spreadOver_79 rfl (lv_at hl 3 rfl) ?_
          refine lv_isub hx hb d_C_spreadOver_80 ?_
          refine va_iast (n := 30) hx hb hK hP (wC_D hD) hS 13 0 rfl rfl (in_isThing hN c_5) d_C_spreadOver_81 (fun H locs hP _ hS => ?_)
          have hP : va_P D classes (wC a cI cII (nI N) (nI K) (sU A 10 x.toNatClampNeg ((A 10 y.toNatClampNeg) - loss))) H := hP
          refine lv_iconst (v := (1 : Int32)) hx hb d_C_spreadOver_82 (by decide) ?_
          exact wRet (u := sU A 10 x.toNatClampNeg ((A 10 y.toNatClampNeg) - loss)) hx hb hr (by first | rfl | decide) hlk (show (1 : Int32) = (k_spreadOver N K A x y loss).1 ∧ sU A 10 x.toNatClampNeg ((A 10 y.toNatClampNeg) - loss) = (k_spreadOver N K A x y loss).2 from by rw [k_spreadOver, if_neg c_5, if_neg c_13, if_pos c_32, if_neg c_65]; exact ⟨rfl, rfl⟩) hP hK hS d_C_spreadOver_83
      · refine lv_aload_n hx hb d_C_spreadOver_35 rfl (lv_at hl 0 rfl) ?_
        refine va_get (D := D) (ci := 0) (v := .ref (a 13)) (C := R_C) (T := F_C) (N := 9) hx hb hts i_C hown hK hP 0 rfl rfl 8 (by decide) (hts _ fl_C_37) (fun _ h9 => h9) rfl d_C_spreadOver_36 ?_
        refine lv_iload_n hx hb d_C_spreadOver_39 rfl (lv_at hl 2 rfl) ?_
        refine lv_aload_n hx hb d_C_spreadOver_40 rfl (lv_at hl 0 rfl) ?_
        refine va_get (D := D) (ci := 0) (v := .ref (a 13)) (C := R_C) (T := F_C) (N := 9) hx hb hts i_C hown hK hP 0 rfl rfl 8 (by decide) (hts _ fl_C_37) (fun _ h9 => h9) rfl d_C_spreadOver_41 ?_
        refine lv_iload_n hx hb d_C_spreadOver_44 rfl (lv_at hl 1 rfl) ?_
        refine va_iald (n := 30) hx hb hK hP 13 0 rfl rfl (in_isThing hN c_5) d_C_spreadOver_45 ?_
        refine lv_iload_n hx hb d_C_spreadOver_46 rfl (lv_at hl 3 rfl) ?_
        refine lv_isub hx hb d_C_spreadOver_47 ?_
        refine va_iast (n := 30) hx hb hK hP (wC_D hD) hS 13 0 rfl rfl (in_isThing hN c_13) d_C_spreadOver_48 (fun H locs hP _ hS => ?_)
        have hP : va_P D classes (wC a cI cII (nI N) (nI K) (sU A 10 y.toNatClampNeg ((A 10 x.toNatClampNeg) - loss))) H := hP
        refine lv_iconst (v := (1 : Int32)) hx hb d_C_spreadOver_49 (by decide) ?_
        exact wRet (u := sU A 10 y.toNatClampNeg ((A 10 x.toNatClampNeg) - loss)) hx hb hr (by first | rfl | decide) hlk (show (1 : Int32) = (k_spreadOver N K A x y loss).1 ∧ sU A 10 y.toNatClampNeg ((A 10 x.toNatClampNeg) - loss) = (k_spreadOver N K A x y loss).2 from by rw [k_spreadOver, if_neg c_5, if_neg c_13, if_neg c_32]; exact ⟨rfl, rfl⟩) hP hK hS d_C_spreadOver_50
    · refine lv_iconst (v := (0 : Int32)) hx hb d_C_spreadOver_16 (by decide) ?_
      exact wRet (u := A) hx hb hr (by first | rfl | decide) hlk (show (0 : Int32) = (k_spreadOver N K A x y loss).1 ∧ A = (k_spreadOver N K A x y loss).2 from by rw [k_spreadOver, if_neg c_5, if_pos c_13]; exact ⟨rfl, rfl⟩) hP hK hS d_C_spreadOver_17

def k_spread_19 (N K : Nat) (mk : Int32) : Nat → Nat → (Nat → Nat → Int32) → Int32 → (Nat → Nat → Int32) × Int32
  | 0, i, A1, v2 => (A1, v2)
  | k + 1, i, A1, v2 => (if (k_wallLoss N K A1 (nI i) mk) = (-1 : Int32) then k_spread_19 N K mk k (i + 1) A1 v2 else (if ((k_spreadOver N K A1 (nI i) (k_spaceOf N K A1 (nI i)) (k_wallLoss N K A1 (nI i) mk)).1) = (0 : Int32) then k_spread_19 N K mk k (i + 1) ((k_spreadOver N K A1 (nI i) (k_spaceOf N K A1 (nI i)) (k_wallLoss N K A1 (nI i) mk)).2) v2 else k_spread_19 N K mk k (i + 1) ((k_spreadOver N K A1 (nI i) (k_spaceOf N K A1 (nI i)) (k_wallLoss N K A1 (nI i) mk)).2) (1 : Int32)))
theorem k_spread_19_0 (N K : Nat) (mk : Int32) (i : Nat) (A1 : (Nat → Nat → Int32)) (v2 : Int32) : k_spread_19 N K mk 0 i A1 v2 = (A1, v2) := rfl
theorem k_spread_19_S (N K : Nat) (mk : Int32) (k i : Nat) (A1 : (Nat → Nat → Int32)) (v2 : Int32) : k_spread_19 N K mk (k + 1) i A1 v2 = (if (k_wallLoss N K A1 (nI i) mk) = (-1 : Int32) then k_spread_19 N K mk k (i + 1) A1 v2 else (if ((k_spreadOver N K A1 (nI i) (k_spaceOf N K A1 (nI i)) (k_wallLoss N K A1 (nI i) mk)).1) = (0 : Int32) then k_spread_19 N K mk k (i + 1) ((k_spreadOver N K A1 (nI i) (k_spaceOf N K A1 (nI i)) (k_wallLoss N K A1 (nI i) mk)).2) v2 else k_spread_19 N K mk k (i + 1) ((k_spreadOver N K A1 (nI i) (k_spaceOf N K A1 (nI i)) (k_wallLoss N K A1 (nI i) mk)).2) (1 : Int32))) := rfl
set_option maxHeartbeats 4000000 in
set_option maxRecDepth 100000 in
theorem wk_spread_19 (l : Launch) (D : va_G) (a : Nat → Nat) (cI cII : ClassId) (N K : Nat) (A : Nat → Nat → Int32) (hN : N ≤ 30) (hKK : K ≤ 10) (Z : Nat → Prop) (mk u3 : Int32) {p : Program} {e : Env} {s : State} {m : MethodId} {below : List Frame} {meth : Method} {c : Code} {Q : State → Prop} (Sx : CallFix p m c b_C_spread 6 s ([.ref (a 0), .int mk] : List Value).toArray BW R_C) (hD : va_D Z (wC a cI cII (nI N) (nI K) A)) (hK : va_K D classes (tC cI cII) s) : ∀ (k i : Nat), i + k = N → ∀ (A1 : (Nat → Nat → Int32)) (v2 : Int32) (H : Heap) (locs : List Loc) (ls : Array Slot), va_P D classes (wC a cI cII (nI N) (nI K) A1) H → va_S Z s.heap H locs → lv_has ls 6 [(0, .ref (a 0)), (1, .int mk), (2, .int v2), (3, .int u3), (4, .int (nI i))] → (∀ (H : Heap) (locs : List Loc) (ls : Array Slot), va_P D classes (wC a cI cII (nI N) (nI K) ((k_spread_19 N K mk k i A1 v2).1)) H → va_S Z s.heap H locs → lv_has ls 6 [(0, .ref (a 0)), (1, .int mk), (2, .int ((k_spread_19 N K mk k i A1 v2).2)), (3, .int u3)] → W p l e ({ frames := 4, cells := 0, slots := 0, locals := 87 } : Room) s m ([.ref (a 0), .int mk] : List Value).toArray below meth c H locs 0 0 Q (F0 m 68 ls [])) → W p l e ({ frames := 4, cells := 0, slots := 0, locals := 87 } : Room) s m ([.ref (a 0), .int mk] : List Value).toArray below meth c H locs 0 0 Q (F0 m 19 ls []) := by
  obtain ⟨hx, hb, hml, hown, hts⟩ := id Sx
  intro k
  induction k with
  | zero =>
    intro i hi A1 v2 H locs ls hP hS hl hk
    refine lv_iload hx hb d_C_spread_19 (lv_at hl 4 rfl) ?_
    refine lv_aload_n hx hb d_C_spread_21 rfl (lv_at hl 0 rfl) ?_
    refine va_get (D := D) (ci := 0) (v := .int (nI N)) (C := R_C) (T := F_C) (N := 9) hx hb hts i_C hown hK hP 0 rfl rfl 0 (by decide) (hts _ fl_C_7) (fun _ h9 => h9) rfl d_C_spread_22 ?_
    refine lv_icmp_ge (tgt := 68) hx hb d_C_spread_25 (by decide) (fun c_25 => ?_) (fun c_25 => absurd (nI_le (a := N) (b := i) (by omega) (by omega)) c_25)
    have e_b : k_spread_19 N K mk 0 i A1 v2 = (A1, v2) := by rw [k_spread_19_0]
    rw [e_b] at hk
    exact hk _ _ ls hP hS (lv_sub hl [0, 1, 2, 3] rfl)
  | succ k ih =>
    intro i hi A1 v2 H locs ls hP hS hl hk
    refine lv_iload hx hb d_C_spread_19 (lv_at hl 4 rfl) ?_
    refine lv_aload_n hx hb d_C_spread_21 rfl (lv_at hl 0 rfl) ?_
    refine va_get (D := D) (ci := 0) (v := .int (nI N)) (C := R_C) (T := F_C) (N := 9) hx hb hts i_C hown hK hP 0 rfl rfl 0 (by decide) (hts _ fl_C_7) (fun _ h9 => h9) rfl d_C_spread_22 ?_
    refine lv_icmp_ge (tgt := 68) hx hb d_C_spread_25 (by decide) (fun c_25 => absurd c_25 (nI_ge (a := i) (b := N) (by omega) (by omega))) (fun c_25 => ?_)
    refine lv_aload_n hx hb d_C_spread_28 rfl (lv_at hl 0 rfl) ?_
    refine lv_iload hx hb d_C_spread_29 (lv_at hl 4 rfl) ?_
    refine lv_iload_n hx hb d_C_spread_31 rfl (lv_at hl 1 rfl) ?_
    refine xro (As := [.int (nI i), .int mk]) (rest := []) Sx (ck_wallLoss l D a cI cII N K A1 hN hKK (nI i) mk) v_C_wallLoss ⟨rfl, rfl, Nat.le_of_ble_eq_true rfl, Nat.le_of_ble_eq_true rfl⟩ hK hP (ci := 0) (q0 := 0) rfl rfl rfl hl.1 rfl (Nat.le_of_ble_eq_true rfl) d_C_spread_32 ⟨Nat.le_of_ble_eq_true rfl, Nat.le_of_ble_eq_true rfl⟩ (fun r hq => ?_)
    subst hq
    refine lv_istore (lv' := [(5, .int (k_wallLoss N K A1 (nI i) mk)), (0, .ref (a 0)), (1, .int mk), (2, .int v2), (3, .int u3), (4, .int (nI i))]) hx hb d_C_spread_35 hl (by decide) rfl (fun ls hl => ?_)
    refine lv_iload hx hb d_C_spread_37 (lv_at hl 0 rfl) ?_
    refine lv_iconst (v := (-1 : Int32)) hx hb d_C_spread_39 (by decide) ?_
    refine lv_icmp_eq (tgt := 62) hx hb d_C_spread_40 (by decide) (fun c_40 => ?_) (fun c_40 => ?_)
    · refine lv_iinc (v := nI (i + 1)) (lv' := [(4, .int (nI (i + 1))), (5, .int (k_wallLoss N K A1 (nI i) mk)), (0, .ref (a 0)), (1, .int mk), (2, .int v2), (3, .int u3)]) hx hb d_C_spread_62 hl (k := 5) rfl (nI_1 i) (by decide) rfl (fun ls hl => ?_)
      refine lv_goto (tgt := 19) hx hb d_C_spread_65 (by decide) ?_
      have e_b : k_spread_19 N K mk (k + 1) i A1 v2 = k_spread_19 N K mk k (i + 1) A1 v2 := by rw [k_spread_19_S, if_pos c_40]
      rw [e_b] at hk
      exact ih (i + 1) (by omega) A1 v2 _ _ ls hP hS (lv_sub hl [2, 3, 4, 5, 0] rfl) hk
    · refine lv_aload_n hx hb d_C_spread_43 rfl (lv_at hl 1 rfl) ?_
      refine lv_iload hx hb d_C_spread_44 (lv_at hl 5 rfl) ?_
      refine lv_aload_n hx hb d_C_spread_46 rfl (lv_at hl 1 rfl) ?_
      refine lv_iload hx hb d_C_spread_47 (lv_at hl 5 rfl) ?_
      refine xro (As := [.int (nI i)]) (rest := [.int (nI i), .ref (a 0)]) Sx (ck_spaceOf l D a cI cII N K A1 hN hKK (nI i)) v_C_spaceOf ⟨rfl, rfl, Nat.le_of_ble_eq_true rfl, Nat.le_of_ble_eq_true rfl⟩ hK hP (ci := 0) (q0 := 0) rfl rfl rfl hl.1 rfl (Nat.le_of_ble_eq_true rfl) d_C_spread_49 ⟨Nat.le_of_ble_eq_true rfl, Nat.le_of_ble_eq_true rfl⟩ (fun r hq => ?_)
      subst hq
      refine lv_iload hx hb d_C_spread_52 (lv_at hl 0 rfl) ?_
      refine xwi (As := [.int (nI i), .int (k_spaceOf N K A1 (nI i)), .int (k_wallLoss N K A1 (nI i) mk)]) (rest := []) Sx (ck_spreadOver l D a cI cII N K A1 hN hKK Z (nI i) (k_spaceOf N K A1 (nI i)) (k_wallLoss N K A1 (nI i) mk)) v_C_spreadOver ⟨rfl, rfl, Nat.le_of_ble_eq_true rfl, Nat.le_of_ble_eq_true rfl⟩ hK hP (ci := 0) (q0 := 0) rfl rfl (wC_D hD) hS (fun _ h => h) rfl hl.1 rfl (Nat.le_of_ble_eq_true rfl) d_C_spread_54 ⟨Nat.le_of_ble_eq_true rfl, Nat.le_of_ble_eq_true rfl⟩ (fun r u H locs hu hP hS => ?_)
      obtain ⟨rfl, rfl⟩ := hu
      have hP : va_P D classes (wC a cI cII (nI N) (nI K) ((k_spreadOver N K A1 (nI i) (k_spaceOf N K A1 (nI i)) (k_wallLoss N K A1 (nI i) mk)).2)) H := hP
      refine lv_if_eq (tgt := 62) hx hb d_C_spread_57 (by decide) (fun c_57 => ?_) (fun c_57 => ?_)
      · refine lv_iinc (v := nI (i + 1)) (lv' := [(4, .int (nI (i + 1))), (5, .int (k_wallLoss N K A1 (nI i) mk)), (0, .ref (a 0)), (1, .int mk), (2, .int v2), (3, .int u3)]) hx hb d_C_spread_62 hl (k := 5) rfl (nI_1 i) (by decide) rfl (fun ls hl => ?_)
        refine lv_goto (tgt := 19) hx hb d_C_spread_65 (by decide) ?_
        have e_b : k_spread_19 N K mk (k + 1) i A1 v2 = k_spread_19 N K mk k (i + 1) ((k_spreadOver N K A1 (nI i) (k_spaceOf N K A1 (nI i)) (k_wallLoss N K A1 (nI i) mk)).2) v2 := by rw [k_spread_19_S, if_neg c_40, if_pos c_57]
        rw [e_b] at hk
        exact ih (i + 1) (by omega) ((k_spreadOver N K A1 (nI i) (k_spaceOf N K A1 (nI i)) (k_wallLoss N K A1 (nI i) mk)).2) v2 _ _ ls hP hS (lv_sub hl [2, 3, 4, 5, 0] rfl) hk
      · refine lv_iconst (v := (1 : Int32)) hx hb d_C_spread_60 (by decide) ?_
        refine lv_istore_n (lv' := [(2, .int (1 : Int32)), (5, .int (k_wallLoss N K A1 (nI i) mk)), (0, .ref (a 0)), (1, .int mk), (3, .int u3), (4, .int (nI i))]) hx hb d_C_spread_61 rfl hl (by decide) rfl (fun ls hl => ?_)
        refine lv_iinc (v := nI (i + 1)) (lv' := [(4, .int (nI (i + 1))), (2, .int (1 : Int32)), (5, .int (k_wallLoss N K A1 (nI i) mk)), (0, .ref (a 0)), (1, .int mk), (3, .int u3)]) hx hb d_C_spread_62 hl (k := 5) rfl (nI_1 i) (by decide) rfl (fun ls hl => ?_)
        refine lv_goto (tgt := 19) hx hb d_C_spread_65 (by decide) ?_
        have e_b : k_spread_19 N K mk (k + 1) i A1 v2 = k_spread_19 N K mk k (i + 1) ((k_spreadOver N K A1 (nI i) (k_spaceOf N K A1 (nI i)) (k_wallLoss N K A1 (nI i) mk)).2) (1 : Int32) := by rw [k_spread_19_S, if_neg c_40, if_neg c_57]
        rw [e_b] at hk
        exact ih (i + 1) (by omega) ((k_spreadOver N K A1 (nI i) (k_spaceOf N K A1 (nI i)) (k_wallLoss N K A1 (nI i) mk)).2) (1 : Int32) _ _ ls hP hS (lv_sub hl [3, 4, 1, 5, 0] rfl) hk
def k_spread_71 (N K : Nat) (mk : Int32) : Nat → Nat → (Nat → Nat → Int32) → Int32 → (Nat → Nat → Int32) × Int32
  | 0, i, A1, v2 => (A1, v2)
  | k + 1, i, A1, v2 => (if (k_doorLoss N K A1 (nI i) mk) = (-1 : Int32) then k_spread_71 N K mk k (i + 1) A1 v2 else (if ((k_spreadOver N K A1 (A1 6 (nI i).toNatClampNeg) (A1 7 (nI i).toNatClampNeg) (k_doorLoss N K A1 (nI i) mk)).1) = (0 : Int32) then k_spread_71 N K mk k (i + 1) ((k_spreadOver N K A1 (A1 6 (nI i).toNatClampNeg) (A1 7 (nI i).toNatClampNeg) (k_doorLoss N K A1 (nI i) mk)).2) v2 else k_spread_71 N K mk k (i + 1) ((k_spreadOver N K A1 (A1 6 (nI i).toNatClampNeg) (A1 7 (nI i).toNatClampNeg) (k_doorLoss N K A1 (nI i) mk)).2) (1 : Int32)))
theorem k_spread_71_0 (N K : Nat) (mk : Int32) (i : Nat) (A1 : (Nat → Nat → Int32)) (v2 : Int32) : k_spread_71 N K mk 0 i A1 v2 = (A1, v2) := rfl
theorem k_spread_71_S (N K : Nat) (mk : Int32) (k i : Nat) (A1 : (Nat → Nat → Int32)) (v2 : Int32) : k_spread_71 N K mk (k + 1) i A1 v2 = (if (k_doorLoss N K A1 (nI i) mk) = (-1 : Int32) then k_spread_71 N K mk k (i + 1) A1 v2 else (if ((k_spreadOver N K A1 (A1 6 (nI i).toNatClampNeg) (A1 7 (nI i).toNatClampNeg) (k_doorLoss N K A1 (nI i) mk)).1) = (0 : Int32) then k_spread_71 N K mk k (i + 1) ((k_spreadOver N K A1 (A1 6 (nI i).toNatClampNeg) (A1 7 (nI i).toNatClampNeg) (k_doorLoss N K A1 (nI i) mk)).2) v2 else k_spread_71 N K mk k (i + 1) ((k_spreadOver N K A1 (A1 6 (nI i).toNatClampNeg) (A1 7 (nI i).toNatClampNeg) (k_doorLoss N K A1 (nI i) mk)).2) (1 : Int32))) := rfl
set_option maxHeartbeats 4000000 in
set_option maxRecDepth 100000 in
theorem wk_spread_71 (l : Launch) (D : va_G) (a : Nat → Nat) (cI cII : ClassId) (N K : Nat) (A : Nat → Nat → Int32) (hN : N ≤ 30) (hKK : K ≤ 10) (Z : Nat → Prop) (mk u3 : Int32) {p : Program} {e : Env} {s : State} {m : MethodId} {below : List Frame} {meth : Method} {c : Code} {Q : State → Prop} (Sx : CallFix p m c b_C_spread 6 s ([.ref (a 0), .int mk] : List Value).toArray BW R_C) (hD : va_D Z (wC a cI cII (nI N) (nI K) A)) (hK : va_K D classes (tC cI cII) s) : ∀ (k i : Nat), i + k = K → ∀ (A1 : (Nat → Nat → Int32)) (v2 : Int32) (H : Heap) (locs : List Loc) (ls : Array Slot), va_P D classes (wC a cI cII (nI N) (nI K) A1) H → va_S Z s.heap H locs → lv_has ls 6 [(0, .ref (a 0)), (1, .int mk), (2, .int v2), (3, .int u3), (4, .int (nI i))] → (∀ (H : Heap) (locs : List Loc) (ls : Array Slot), va_P D classes (wC a cI cII (nI N) (nI K) ((k_spread_71 N K mk k i A1 v2).1)) H → va_S Z s.heap H locs → lv_has ls 6 [(0, .ref (a 0)), (1, .int mk), (2, .int ((k_spread_71 N K mk k i A1 v2).2)), (3, .int u3)] → W p l e ({ frames := 4, cells := 0, slots := 0, locals := 87 } : Room) s m ([.ref (a 0), .int mk] : List Value).toArray below meth c H locs 0 0 Q (F0 m 126 ls [])) → W p l e ({ frames := 4, cells := 0, slots := 0, locals := 87 } : Room) s m ([.ref (a 0), .int mk] : List Value).toArray below meth c H locs 0 0 Q (F0 m 71 ls []) := by
  obtain ⟨hx, hb, hml, hown, hts⟩ := id Sx
  intro k
  induction k with
  | zero =>
    intro i hi A1 v2 H locs ls hP hS hl hk
    refine lv_iload hx hb d_C_spread_71 (lv_at hl 4 rfl) ?_
    refine lv_aload_n hx hb d_C_spread_73 rfl (lv_at hl 0 rfl) ?_
    refine va_get (D := D) (ci := 0) (v := .int (nI K)) (C := R_C) (T := F_C) (N := 9) hx hb hts i_C hown hK hP 0 rfl rfl 4 (by decide) (hts _ fl_C_25) (fun _ h9 => h9) rfl d_C_spread_74 ?_
    refine lv_icmp_ge (tgt := 126) hx hb d_C_spread_77 (by decide) (fun c_77 => ?_) (fun c_77 => absurd (nI_le (a := K) (b := i) (by omega) (by omega)) c_77)
    have e_b : k_spread_71 N K mk 0 i A1 v2 = (A1, v2) := by rw [k_spread_71_0]
    rw [e_b] at hk
    exact hk _ _ ls hP hS (lv_sub hl [0, 1, 2, 3] rfl)
  | succ k ih =>
    intro i hi A1 v2 H locs ls hP hS hl hk
    refine lv_iload hx hb d_C_spread_71 (lv_at hl 4 rfl) ?_
    refine lv_aload_n hx hb d_C_spread_73 rfl (lv_at hl 0 rfl) ?_
    refine va_get (D := D) (ci := 0) (v := .int (nI K)) (C := R_C) (T := F_C) (N := 9) hx hb hts i_C hown hK hP 0 rfl rfl 4 (by decide) (hts _ fl_C_25) (fun _ h9 => h9) rfl d_C_spread_74 ?_
    refine lv_icmp_ge (tgt := 126) hx hb d_C_spread_77 (by decide) (fun c_77 => absurd c_77 (nI_ge (a := i) (b := K) (by omega) (by omega))) (fun c_77 => ?_)
    refine lv_aload_n hx hb d_C_spread_80 rfl (lv_at hl 0 rfl) ?_
    refine lv_iload hx hb d_C_spread_81 (lv_at hl 4 rfl) ?_
    refine lv_iload_n hx hb d_C_spread_83 rfl (lv_at hl 1 rfl) ?_
    refine xro (As := [.int (nI i), .int mk]) (rest := []) Sx (ck_doorLoss l D a cI cII N K A1 hN hKK (nI i) mk) v_C_doorLoss ⟨rfl, rfl, Nat.le_of_ble_eq_true rfl, Nat.le_of_ble_eq_true rfl⟩ hK hP (ci := 0) (q0 := 0) rfl rfl rfl hl.1 rfl (Nat.le_of_ble_eq_true rfl) d_C_spread_84 ⟨Nat.le_of_ble_eq_true rfl, Nat.le_of_ble_eq_true rfl⟩ (fun r hq => ?_)
    subst hq
    refine lv_istore (lv' := [(5, .int (k_doorLoss N K A1 (nI i) mk)), (0, .ref (a 0)), (1, .int mk), (2, .int v2), (3, .int u3), (4, .int (nI i))]) hx hb d_C_spread_87 hl (by decide) rfl (fun ls hl => ?_)
    refine lv_iload hx hb d_C_spread_89 (lv_at hl 0 rfl) ?_
    refine lv_iconst (v := (-1 : Int32)) hx hb d_C_spread_91 (by decide) ?_
    refine lv_icmp_eq (tgt := 120) hx hb d_C_spread_92 (by decide) (fun c_92 => ?_) (fun c_92 => ?_)
    · refine lv_iinc (v := nI (i + 1)) (lv' := [(4, .int (nI (i + 1))), (5, .int (k_doorLoss N K A1 (nI i) mk)), (0, .ref (a 0)), (1, .int mk), (2, .int v2), (3, .int u3)]) hx hb d_C_spread_120 hl (k := 5) rfl (nI_1 i) (by decide) rfl (fun ls hl => ?_)
      refine lv_goto (tgt := 71) hx hb d_C_spread_123 (by decide) ?_
      have e_b : k_spread_71 N K mk (k + 1) i A1 v2 = k_spread_71 N K mk k (i + 1) A1 v2 := by rw [k_spread_71_S, if_pos c_92]
      rw [e_b] at hk
      exact ih (i + 1) (by omega) A1 v2 _ _ ls hP hS (lv_sub hl [2, 3, 4, 5, 0] rfl) hk
    · refine lv_aload_n hx hb d_C_spread_95 rfl (lv_at hl 1 rfl) ?_
      refine lv_aload_n hx hb d_C_spread_96 rfl (lv_at hl 1 rfl) ?_
      refine va_get (D := D) (ci := 0) (v := .ref (a 8)) (C := R_C) (T := F_C) (N := 9) hx hb hts i_C hown hK hP 0 rfl rfl 5 (by decide) (hts _ fl_C_28) (fun _ h9 => h9) rfl d_C_spread_97 ?_
      refine lv_iload hx hb d_C_spread_100 (lv_at hl 5 rfl) ?_
      refine va_iald (n := 10) hx hb hK hP 8 0 rfl rfl (vp_in_nI (by omega) (by omega)) d_C_spread_102 ?_
      refine lv_aload_n hx hb d_C_spread_103 rfl (lv_at hl 1 rfl) ?_
      refine va_get (D := D) (ci := 0) (v := .ref (a 9)) (C := R_C) (T := F_C) (N := 9) hx hb hts i_C hown hK hP 0 rfl rfl 6 (by decide) (hts _ fl_C_31) (fun _ h9 => h9) rfl d_C_spread_104 ?_
      refine lv_iload hx hb d_C_spread_107 (lv_at hl 5 rfl) ?_
      refine va_iald (n := 10) hx hb hK hP 9 0 rfl rfl (vp_in_nI (by omega) (by omega)) d_C_spread_109 ?_
      refine lv_iload hx hb d_C_spread_110 (lv_at hl 0 rfl) ?_
      refine xwi (As := [.int (A1 6 (nI i).toNatClampNeg), .int (A1 7 (nI i).toNatClampNeg), .int (k_doorLoss N K A1 (nI i) mk)]) (rest := []) Sx (ck_spreadOver l D a cI cII N K A1 hN hKK Z (A1 6 (nI i).toNatClampNeg) (A1 7 (nI i).toNatClampNeg) (k_doorLoss N K A1 (nI i) mk)) v_C_spreadOver ⟨rfl, rfl, Nat.le_of_ble_eq_true rfl, Nat.le_of_ble_eq_true rfl⟩ hK hP (ci := 0) (q0 := 0) rfl rfl (wC_D hD) hS (fun _ h => h) rfl hl.1 rfl (Nat.le_of_ble_eq_true rfl) d_C_spread_112 ⟨Nat.le_of_ble_eq_true rfl, Nat.le_of_ble_eq_true rfl⟩ (fun r u H locs hu hP hS => ?_)
      obtain ⟨rfl, rfl⟩ := hu
      have hP : va_P D classes (wC a cI cII (nI N) (nI K) ((k_spreadOver N K A1 (A1 6 (nI i).toNatClampNeg) (A1 7 (nI i).toNatClampNeg) (k_doorLoss N K A1 (nI i) mk)).2)) H := hP
      refine lv_if_eq (tgt := 120) hx hb d_C_spread_115 (by decide) (fun c_115 => ?_) (fun c_115 => ?_)
      · refine lv_iinc (v := nI (i + 1)) (lv' := [(4, .int (nI (i + 1))), (5, .int (k_doorLoss N K A1 (nI i) mk)), (0, .ref (a 0)), (1, .int mk), (2, .int v2), (3, .int u3)]) hx hb d_C_spread_120 hl (k := 5) rfl (nI_1 i) (by decide) rfl (fun ls hl => ?_)
        refine lv_goto (tgt := 71) hx hb d_C_spread_123 (by decide) ?_
        have e_b : k_spread_71 N K mk (k + 1) i A1 v2 = k_spread_71 N K mk k (i + 1) ((k_spreadOver N K A1 (A1 6 (nI i).toNatClampNeg) (A1 7 (nI i).toNatClampNeg) (k_doorLoss N K A1 (nI i) mk)).2) v2 := by rw [k_spread_71_S, if_neg c_92, if_pos c_115]
        rw [e_b] at hk
        exact ih (i + 1) (by omega) ((k_spreadOver N K A1 (A1 6 (nI i).toNatClampNeg) (A1 7 (nI i).toNatClampNeg) (k_doorLoss N K A1 (nI i) mk)).2) v2 _ _ ls hP hS (lv_sub hl [2, 3, 4, 5, 0] rfl) hk
      · refine lv_iconst (v := (1 : Int32)) hx hb d_C_spread_118 (by decide) ?_
        refine lv_istore_n (lv' := [(2, .int (1 : Int32)), (5, .int (k_doorLoss N K A1 (nI i) mk)), (0, .ref (a 0)), (1, .int mk), (3, .int u3), (4, .int (nI i))]) hx hb d_C_spread_119 rfl hl (by decide) rfl (fun ls hl => ?_)
        refine lv_iinc (v := nI (i + 1)) (lv' := [(4, .int (nI (i + 1))), (2, .int (1 : Int32)), (5, .int (k_doorLoss N K A1 (nI i) mk)), (0, .ref (a 0)), (1, .int mk), (3, .int u3)]) hx hb d_C_spread_120 hl (k := 5) rfl (nI_1 i) (by decide) rfl (fun ls hl => ?_)
        refine lv_goto (tgt := 71) hx hb d_C_spread_123 (by decide) ?_
        have e_b : k_spread_71 N K mk (k + 1) i A1 v2 = k_spread_71 N K mk k (i + 1) ((k_spreadOver N K A1 (A1 6 (nI i).toNatClampNeg) (A1 7 (nI i).toNatClampNeg) (k_doorLoss N K A1 (nI i) mk)).2) (1 : Int32) := by rw [k_spread_71_S, if_neg c_92, if_neg c_115]
        rw [e_b] at hk
        exact ih (i + 1) (by omega) ((k_spreadOver N K A1 (A1 6 (nI i).toNatClampNeg) (A1 7 (nI i).toNatClampNeg) (k_doorLoss N K A1 (nI i) mk)).2) (1 : Int32) _ _ ls hP hS (lv_sub hl [3, 4, 1, 5, 0] rfl) hk
def k_spread_4 (N K : Nat) (mk : Int32) : Nat → Nat → (Nat → Nat → Int32) → Int32 → (Nat → Nat → Int32)
  | 0, i, A1, v2 => A1
  | k + 1, i, A1, v2 => (if v2 = (0 : Int32) then A1 else k_spread_4 N K mk k (i + 1) ((k_spread_71 N K mk K 0 ((k_spread_19 N K mk N 0 A1 (0 : Int32)).1) ((k_spread_19 N K mk N 0 A1 (0 : Int32)).2)).1) ((k_spread_71 N K mk K 0 ((k_spread_19 N K mk N 0 A1 (0 : Int32)).1) ((k_spread_19 N K mk N 0 A1 (0 : Int32)).2)).2))
theorem k_spread_4_0 (N K : Nat) (mk : Int32) (i : Nat) (A1 : (Nat → Nat → Int32)) (v2 : Int32) : k_spread_4 N K mk 0 i A1 v2 = A1 := rfl
theorem k_spread_4_S (N K : Nat) (mk : Int32) (k i : Nat) (A1 : (Nat → Nat → Int32)) (v2 : Int32) : k_spread_4 N K mk (k + 1) i A1 v2 = (if v2 = (0 : Int32) then A1 else k_spread_4 N K mk k (i + 1) ((k_spread_71 N K mk K 0 ((k_spread_19 N K mk N 0 A1 (0 : Int32)).1) ((k_spread_19 N K mk N 0 A1 (0 : Int32)).2)).1) ((k_spread_71 N K mk K 0 ((k_spread_19 N K mk N 0 A1 (0 : Int32)).1) ((k_spread_19 N K mk N 0 A1 (0 : Int32)).2)).2)) := rfl
set_option maxHeartbeats 4000000 in
set_option maxRecDepth 100000 in
theorem wk_spread_4 (l : Launch) (D : va_G) (a : Nat → Nat) (cI cII : ClassId) (N K : Nat) (A : Nat → Nat → Int32) (hN : N ≤ 30) (hKK : K ≤ 10) (Z : Nat → Prop) (mk : Int32) {p : Program} {e : Env} {s : State} {m : MethodId} {below : List Frame} {meth : Method} {c : Code} (Sx : CallFix p m c b_C_spread 6 s ([.ref (a 0), .int mk] : List Value).toArray BW R_C) (hr : meth.sig.returnType = none) (hlk : meth.locks = false) (hD : va_D Z (wC a cI cII (nI N) (nI K) A)) (hK : va_K D classes (tC cI cII) s) : ∀ (k i : Nat), i + k = 30 → ∀ (A1 : (Nat → Nat → Int32)) (v2 : Int32) (H : Heap) (locs : List Loc) (ls : Array Slot), va_P D classes (wC a cI cII (nI N) (nI K) A1) H → va_S Z s.heap H locs → lv_has ls 6 [(0, .ref (a 0)), (1, .int mk), (2, .int v2), (3, .int (nI i))] → W p l e ({ frames := 4, cells := 0, slots := 0, locals := 87 } : Room) s m ([.ref (a 0), .int mk] : List Value).toArray below meth c H locs 0 0 (MQ below (va_Qv (fun u => u = k_spread_4 N K mk k i A1 v2) (atW D (fun u => wC a cI cII (nI N) (nI K) u) (tC cI cII)) Z) ([.ref (a 0), .int mk] : List Value).toArray s 0 0 Z) (F0 m 4 ls []) := by
  obtain ⟨hx, hb, hml, hown, hts⟩ := id Sx
  intro k
  induction k with
  | zero =>
    intro i hi A1 v2 H locs ls hP hS hl
    refine lv_iload_n hx hb d_C_spread_4 rfl (lv_at hl 3 rfl) ?_
    refine lv_bipush (v := (30 : Int32)) hx hb d_C_spread_5 (by decide) ?_
    refine lv_icmp_ge (tgt := 132) hx hb d_C_spread_7 (by decide) (fun c_7 => ?_) (fun c_7 => absurd (nI_le (a := 30) (b := i) (by omega) (by omega)) c_7)
    exact wRetV (u := A1) hx hb hr hlk (show A1 = k_spread_4 N K mk 0 i A1 v2 from by rw [k_spread_4_0]) hP hK hS d_C_spread_132
  | succ k ih =>
    intro i hi A1 v2 H locs ls hP hS hl
    refine lv_iload_n hx hb d_C_spread_4 rfl (lv_at hl 3 rfl) ?_
    refine lv_bipush (v := (30 : Int32)) hx hb d_C_spread_5 (by decide) ?_
    refine lv_icmp_ge (tgt := 132) hx hb d_C_spread_7 (by decide) (fun c_7 => absurd c_7 (nI_ge (a := i) (b := 30) (by omega) (by omega))) (fun c_7 => ?_)
    refine lv_iload_n hx hb d_C_spread_10 rfl (lv_at hl 2 rfl) ?_
    refine lv_if_eq (tgt := 132) hx hb d_C_spread_11 (by decide) (fun c_11 => ?_) (fun c_11 => ?_)
    · exact wRetV (u := A1) hx hb hr hlk (show A1 = k_spread_4 N K mk (k + 1) i A1 v2 from by rw [k_spread_4_S, if_pos c_11]) hP hK hS d_C_spread_132
    · refine lv_iconst (v := (0 : Int32)) hx hb d_C_spread_14 (by decide) ?_
      refine lv_istore_n (lv' := [(2, .int (0 : Int32)), (0, .ref (a 0)), (1, .int mk), (3, .int (nI i))]) hx hb d_C_spread_15 rfl hl (by decide) rfl (fun ls hl => ?_)
      refine lv_iconst (v := (0 : Int32)) hx hb d_C_spread_16 (by decide) ?_
      refine lv_istore (lv' := [(4, .int (0 : Int32)), (2, .int (0 : Int32)), (0, .ref (a 0)), (1, .int mk), (3, .int (nI i))]) hx hb d_C_spread_17 hl (by decide) rfl (fun ls hl => ?_)
      refine wk_spread_19 l D a cI cII N K A1 hN hKK Z mk (nI i) Sx (wC_D hD) hK N 0 (by omega) A1 (0 : Int32) _ _ ls hP hS (lv_sub hl [2, 3, 1, 4, 0] rfl) (fun H locs ls hP hS hl => ?_)
      refine lv_iconst (v := (0 : Int32)) hx hb d_C_spread_68 (by decide) ?_
      refine lv_istore (lv' := [(4, .int (0 : Int32)), (0, .ref (a 0)), (1, .int mk), (2, .int ((k_spread_19 N K mk N 0 A1 (0 : Int32)).2)), (3, .int (nI i))]) hx hb d_C_spread_69 hl (by decide) rfl (fun ls hl => ?_)
      refine wk_spread_71 l D a cI cII N K ((k_spread_19 N K mk N 0 A1 (0 : Int32)).1) hN hKK Z mk (nI i) Sx (wC_D hD) hK K 0 (by omega) ((k_spread_19 N K mk N 0 A1 (0 : Int32)).1) ((k_spread_19 N K mk N 0 A1 (0 : Int32)).2) _ _ ls hP hS (lv_sub hl [1, 2, 3, 4, 0] rfl) (fun H locs ls hP hS hl => ?_)
      refine lv_iinc (v := nI (i + 1)) (lv' := [(3, .int (nI (i + 1))), (0, .ref (a 0)), (1, .int mk), (2, .int ((k_spread_71 N K mk K 0 ((k_spread_19 N K mk N 0 A1 (0 : Int32)).1) ((k_spread_19 N K mk N 0 A1 (0 : Int32)).2)).2))]) hx hb d_C_spread_126 hl (k := 3) rfl (nI_1 i) (by decide) rfl (fun ls hl => ?_)
      refine lv_goto (tgt := 4) hx hb d_C_spread_129 (by decide) ?_
      have e_b : k_spread_4 N K mk (k + 1) i A1 v2 = k_spread_4 N K mk k (i + 1) ((k_spread_71 N K mk K 0 ((k_spread_19 N K mk N 0 A1 (0 : Int32)).1) ((k_spread_19 N K mk N 0 A1 (0 : Int32)).2)).1) ((k_spread_71 N K mk K 0 ((k_spread_19 N K mk N 0 A1 (0 : Int32)).1) ((k_spread_19 N K mk N 0 A1 (0 : Int32)).2)).2) := by rw [k_spread_4_S, if_neg c_11]
      rw [e_b]
      exact ih (i + 1) (by omega) ((k_spread_71 N K mk K 0 ((k_spread_19 N K mk N 0 A1 (0 : Int32)).1) ((k_spread_19 N K mk N 0 A1 (0 : Int32)).2)).1) ((k_spread_71 N K mk K 0 ((k_spread_19 N K mk N 0 A1 (0 : Int32)).1) ((k_spread_19 N K mk N 0 A1 (0 : Int32)).2)).2) _ _ ls hP hS (lv_sub hl [1, 2, 3, 0] rfl)
def k_spread (N K : Nat) (A : Nat → Nat → Int32) (mk : Int32) : (Nat → Nat → Int32) := k_spread_4 N K mk 30 0 A (1 : Int32)
set_option maxHeartbeats 4000000 in
set_option maxRecDepth 100000 in
theorem ck_spread (l : Launch) (D : va_G) (a : Nat → Nat) (cI cII : ClassId) (N K : Nat) (A : Nat → Nat → Int32) (hN : N ≤ 30) (hKK : K ≤ 10) (Z : Nat → Prop) (mk : Int32) : Met l y_C_spread (Cond.code y_C_spread b_C_spread 6 none :: BW) ({ frames := 4, cells := 0, slots := 0, locals := 87 } : Room) (PcW D Z (wC a cI cII (nI N) (nI K) A) (tC cI cII) [.ref (a 0), .int mk]) (va_Qv (fun u => u = k_spread N K A mk) (atW D (fun u => wC a cI cII (nI N) (nI K) u) (tC cI cII)) Z) 0 0 Z := by
  refine wStartV (by decide) rfl (Nat.le_of_ble_eq_true rfl) (fun p e s m below meth c Sx hr hlk hP hK hD hS ls hl => ?_)
  obtain ⟨hx, hb, hml, hown, hts⟩ := id Sx
  have hl : lv_has ls 6 [(0, .ref (a 0)), (1, .int mk)] := hl
  refine lv_iconst (v := (1 : Int32)) hx hb d_C_spread_0 (by decide) ?_
  refine lv_istore_n (lv' := [(2, .int (1 : Int32)), (0, .ref (a 0)), (1, .int mk)]) hx hb d_C_spread_1 rfl hl (by decide) rfl (fun ls hl => ?_)
  refine lv_iconst (v := (0 : Int32)) hx hb d_C_spread_2 (by decide) ?_
  refine lv_istore_n (lv' := [(3, .int (0 : Int32)), (2, .int (1 : Int32)), (0, .ref (a 0)), (1, .int mk)]) hx hb d_C_spread_3 rfl hl (by decide) rfl (fun ls hl => ?_)
  have e_4 : k_spread N K A mk = k_spread_4 N K mk 30 0 A (1 : Int32) := by rw [k_spread]
  rw [e_4]
  exact wk_spread_4 l D a cI cII N K A hN hKK Z mk Sx hr hlk (wC_D hD) hK 30 0 (by omega) A (1 : Int32) _ _ ls hP hS (lv_sub hl [2, 3, 1, 0] rfl)

def k_fillFromAllThings_10 (N K : Nat) (mk : Int32) : Nat → Nat → (Nat → Nat → Int32) → (Nat → Nat → Int32)
  | 0, i, A1 => k_spread N K A1 mk
  | k + 1, i, A1 => (if (k_spaceOf N K A1 (nI i)) = (-1 : Int32) then k_fillFromAllThings_10 N K mk k (i + 1) A1 else k_fillFromAllThings_10 N K mk k (i + 1) (sU A1 10 (k_spaceOf N K A1 (nI i)).toNatClampNeg (if (A1 10 (k_spaceOf N K A1 (nI i)).toNatClampNeg) < (k_markOf N K A1 (nI i) mk) then (k_markOf N K A1 (nI i) mk) else (A1 10 (k_spaceOf N K A1 (nI i)).toNatClampNeg))))
theorem k_fillFromAllThings_10_0 (N K : Nat) (mk : Int32) (i : Nat) (A1 : (Nat → Nat → Int32)) : k_fillFromAllThings_10 N K mk 0 i A1 = k_spread N K A1 mk := rfl
theorem k_fillFromAllThings_10_S (N K : Nat) (mk : Int32) (k i : Nat) (A1 : (Nat → Nat → Int32)) : k_fillFromAllThings_10 N K mk (k + 1) i A1 = (if (k_spaceOf N K A1 (nI i)) = (-1 : Int32) then k_fillFromAllThings_10 N K mk k (i + 1) A1 else k_fillFromAllThings_10 N K mk k (i + 1) (sU A1 10 (k_spaceOf N K A1 (nI i)).toNatClampNeg (if (A1 10 (k_spaceOf N K A1 (nI i)).toNatClampNeg) < (k_markOf N K A1 (nI i) mk) then (k_markOf N K A1 (nI i) mk) else (A1 10 (k_spaceOf N K A1 (nI i)).toNatClampNeg)))) := rfl
set_option maxHeartbeats 4000000 in
set_option maxRecDepth 100000 in
theorem wk_fillFromAllThings_10 (l : Launch) (D : va_G) (a : Nat → Nat) (cI cII : ClassId) (N K : Nat) (A : Nat → Nat → Int32) (hN : N ≤ 30) (hKK : K ≤ 10) (Z : Nat → Prop) (mk : Int32) {p : Program} {e : Env} {s : State} {m : MethodId} {below : List Frame} {meth : Method} {c : Code} (Sx : CallFix p m c b_C_fillFromAllThings 4 s ([.ref (a 0), .int mk] : List Value).toArray BW R_C) (hr : meth.sig.returnType = none) (hlk : meth.locks = false) (hD : va_D Z (wC a cI cII (nI N) (nI K) A)) (hK : va_K D classes (tC cI cII) s) : ∀ (k i : Nat), i + k = N → ∀ (A1 : (Nat → Nat → Int32)) (H : Heap) (locs : List Loc) (ls : Array Slot), va_P D classes (wC a cI cII (nI N) (nI K) A1) H → va_S Z s.heap H locs → lv_has ls 4 [(0, .ref (a 0)), (1, .int mk), (2, .int (nI i))] → W p l e ({ frames := 5, cells := 0, slots := 0, locals := 112 } : Room) s m ([.ref (a 0), .int mk] : List Value).toArray below meth c H locs 0 0 (MQ below (va_Qv (fun u => u = k_fillFromAllThings_10 N K mk k i A1) (atW D (fun u => wC a cI cII (nI N) (nI K) u) (tC cI cII)) Z) ([.ref (a 0), .int mk] : List Value).toArray s 0 0 Z) (F0 m 10 ls []) := by
  obtain ⟨hx, hb, hml, hown, hts⟩ := id Sx
  intro k
  induction k with
  | zero =>
    intro i hi A1 H locs ls hP hS hl
    refine lv_iload_n hx hb d_C_fillFromAllThings_10 rfl (lv_at hl 2 rfl) ?_
    refine lv_aload_n hx hb d_C_fillFromAllThings_11 rfl (lv_at hl 0 rfl) ?_
    refine va_get (D := D) (ci := 0) (v := .int (nI N)) (C := R_C) (T := F_C) (N := 9) hx hb hts i_C hown hK hP 0 rfl rfl 0 (by decide) (hts _ fl_C_7) (fun _ h9 => h9) rfl d_C_fillFromAllThings_12 ?_
    refine lv_icmp_ge (tgt := 56) hx hb d_C_fillFromAllThings_15 (by decide) (fun c_15 => ?_) (fun c_15 => absurd (nI_le (a := N) (b := i) (by omega) (by omega)) c_15)
    refine lv_aload_n hx hb d_C_fillFromAllThings_56 rfl (lv_at hl 0 rfl) ?_
    refine lv_iload_n hx hb d_C_fillFromAllThings_57 rfl (lv_at hl 1 rfl) ?_
    refine xwv (As := [.int mk]) (rest := []) Sx (ck_spread l D a cI cII N K A1 hN hKK Z mk) v_C_spread ⟨rfl, rfl, Nat.le_of_ble_eq_true rfl, Nat.le_of_ble_eq_true rfl⟩ hK hP (ci := 0) (q0 := 0) rfl rfl (wC_D hD) hS (fun _ h => h) rfl hl.1 rfl (Nat.le_of_ble_eq_true rfl) d_C_fillFromAllThings_58 ⟨Nat.le_of_ble_eq_true rfl, Nat.le_of_ble_eq_true rfl⟩ (fun u H locs hu hP hS => ?_)
    subst hu
    have hP : va_P D classes (wC a cI cII (nI N) (nI K) (k_spread N K A1 mk)) H := hP
    exact wRetV (u := k_spread N K A1 mk) hx hb hr hlk (show k_spread N K A1 mk = k_fillFromAllThings_10 N K mk 0 i A1 from by rw [k_fillFromAllThings_10_0]) hP hK hS d_C_fillFromAllThings_61
  | succ k ih =>
    intro i hi A1 H locs ls hP hS hl
    refine lv_iload_n hx hb d_C_fillFromAllThings_10 rfl (lv_at hl 2 rfl) ?_
    refine lv_aload_n hx hb d_C_fillFromAllThings_11 rfl (lv_at hl 0 rfl) ?_
    refine va_get (D := D) (ci := 0) (v := .int (nI N)) (C := R_C) (T := F_C) (N := 9) hx hb hts i_C hown hK hP 0 rfl rfl 0 (by decide) (hts _ fl_C_7) (fun _ h9 => h9) rfl d_C_fillFromAllThings_12 ?_
    refine lv_icmp_ge (tgt := 56) hx hb d_C_fillFromAllThings_15 (by decide) (fun c_15 => absurd c_15 (nI_ge (a := i) (b := N) (by omega) (by omega))) (fun c_15 => ?_)
    refine lv_aload_n hx hb d_C_fillFromAllThings_18 rfl (lv_at hl 0 rfl) ?_
    refine lv_iload_n hx hb d_C_fillFromAllThings_19 rfl (lv_at hl 2 rfl) ?_
    refine xro (As := [.int (nI i)]) (rest := []) Sx (ck_spaceOf l D a cI cII N K A1 hN hKK (nI i)) v_C_spaceOf ⟨rfl, rfl, Nat.le_of_ble_eq_true rfl, Nat.le_of_ble_eq_true rfl⟩ hK hP (ci := 0) (q0 := 0) rfl rfl rfl hl.1 rfl (Nat.le_of_ble_eq_true rfl) d_C_fillFromAllThings_20 ⟨Nat.le_of_ble_eq_true rfl, Nat.le_of_ble_eq_true rfl⟩ (fun r hq => ?_)
    subst hq
    refine lv_istore_n (lv' := [(3, .int (k_spaceOf N K A1 (nI i))), (0, .ref (a 0)), (1, .int mk), (2, .int (nI i))]) hx hb d_C_fillFromAllThings_23 rfl hl (by decide) rfl (fun ls hl => ?_)
    refine lv_iload_n hx hb d_C_fillFromAllThings_24 rfl (lv_at hl 0 rfl) ?_
    refine lv_iconst (v := (-1 : Int32)) hx hb d_C_fillFromAllThings_25 (by decide) ?_
    refine lv_icmp_eq (tgt := 50) hx hb d_C_fillFromAllThings_26 (by decide) (fun c_26 => ?_) (fun c_26 => ?_)
    · refine lv_iinc (v := nI (i + 1)) (lv' := [(2, .int (nI (i + 1))), (3, .int (k_spaceOf N K A1 (nI i))), (0, .ref (a 0)), (1, .int mk)]) hx hb d_C_fillFromAllThings_50 hl (k := 3) rfl (nI_1 i) (by decide) rfl (fun ls hl => ?_)
      refine lv_goto (tgt := 10) hx hb d_C_fillFromAllThings_53 (by decide) ?_
      have e_b : k_fillFromAllThings_10 N K mk (k + 1) i A1 = k_fillFromAllThings_10 N K mk k (i + 1) A1 := by rw [k_fillFromAllThings_10_S, if_pos c_26]
      rw [e_b]
      exact ih (i + 1) (by omega) A1 _ _ ls hP hS (lv_sub hl [2, 3, 0] rfl)
    · refine lv_aload_n hx hb d_C_fillFromAllThings_29 rfl (lv_at hl 1 rfl) ?_
      refine va_get (D := D) (ci := 0) (v := .ref (a 13)) (C := R_C) (T := F_C) (N := 9) hx hb hts i_C hown hK hP 0 rfl rfl 8 (by decide) (hts _ fl_C_37) (fun _ h9 => h9) rfl d_C_fillFromAllThings_30 ?_
      refine lv_iload_n hx hb d_C_fillFromAllThings_33 rfl (lv_at hl 0 rfl) ?_
      refine lv_aload_n hx hb d_C_fillFromAllThings_34 rfl (lv_at hl 1 rfl) ?_
      refine va_get (D := D) (ci := 0) (v := .ref (a 13)) (C := R_C) (T := F_C) (N := 9) hx hb hts i_C hown hK hP 0 rfl rfl 8 (by decide) (hts _ fl_C_37) (fun _ h9 => h9) rfl d_C_fillFromAllThings_35 ?_
      refine lv_iload_n hx hb d_C_fillFromAllThings_38 rfl (lv_at hl 0 rfl) ?_
      refine va_iald (n := 30) hx hb hK hP 13 0 rfl rfl (in_spaceOf hN c_26) d_C_fillFromAllThings_39 ?_
      refine lv_aload_n hx hb d_C_fillFromAllThings_40 rfl (lv_at hl 1 rfl) ?_
      refine lv_iload_n hx hb d_C_fillFromAllThings_41 rfl (lv_at hl 3 rfl) ?_
      refine lv_iload_n hx hb d_C_fillFromAllThings_42 rfl (lv_at hl 2 rfl) ?_
      refine xro (As := [.int (nI i), .int mk]) (rest := [.int (A1 10 (k_spaceOf N K A1 (nI i)).toNatClampNeg), .int (k_spaceOf N K A1 (nI i)), .ref (a 13)]) Sx (ck_markOf l D a cI cII N K A1 hN hKK (nI i) mk) v_C_markOf ⟨rfl, rfl, Nat.le_of_ble_eq_true rfl, Nat.le_of_ble_eq_true rfl⟩ hK hP (ci := 0) (q0 := 0) rfl rfl rfl hl.1 rfl (Nat.le_of_ble_eq_true rfl) d_C_fillFromAllThings_43 ⟨Nat.le_of_ble_eq_true rfl, Nat.le_of_ble_eq_true rfl⟩ (fun r hq => ?_)
      subst hq
      refine va_mmax (rest := [.int (k_spaceOf N K A1 (nI i)), .ref (a 13)]) hx hb (by rw [hml]; exact hl.1.symm) hown (hts _ k_mmax_link) (hts _ k_mmax_stat) (hts _ k_mmax_ini) (hts _ k_mmax_code) (Nat.le_of_ble_eq_true rfl) (Nat.le_of_ble_eq_true rfl) (Nat.le_of_ble_eq_true rfl) (Nat.le_of_ble_eq_true rfl) d_C_fillFromAllThings_46 ?_
      refine va_iast (n := 30) hx hb hK hP (wC_D hD) hS 13 0 rfl rfl (in_spaceOf hN c_26) d_C_fillFromAllThings_49 (fun H locs hP _ hS => ?_)
      have hP : va_P D classes (wC a cI cII (nI N) (nI K) (sU A1 10 (k_spaceOf N K A1 (nI i)).toNatClampNeg (if (A1 10 (k_spaceOf N K A1 (nI i)).toNatClampNeg) < (k_markOf N K A1 (nI i) mk) then (k_markOf N K A1 (nI i) mk) else (A1 10 (k_spaceOf N K A1 (nI i)).toNatClampNeg)))) H := hP
      refine lv_iinc (v := nI (i + 1)) (lv' := [(2, .int (nI (i + 1))), (3, .int (k_spaceOf N K A1 (nI i))), (0, .ref (a 0)), (1, .int mk)]) hx hb d_C_fillFromAllThings_50 hl (k := 3) rfl (nI_1 i) (by decide) rfl (fun ls hl => ?_)
      refine lv_goto (tgt := 10) hx hb d_C_fillFromAllThings_53 (by decide) ?_
      have e_b : k_fillFromAllThings_10 N K mk (k + 1) i A1 = k_fillFromAllThings_10 N K mk k (i + 1) (sU A1 10 (k_spaceOf N K A1 (nI i)).toNatClampNeg (if (A1 10 (k_spaceOf N K A1 (nI i)).toNatClampNeg) < (k_markOf N K A1 (nI i) mk) then (k_markOf N K A1 (nI i) mk) else (A1 10 (k_spaceOf N K A1 (nI i)).toNatClampNeg))) := by rw [k_fillFromAllThings_10_S, if_neg c_26]
      rw [e_b]
      exact ih (i + 1) (by omega) (sU A1 10 (k_spaceOf N K A1 (nI i)).toNatClampNeg (if (A1 10 (k_spaceOf N K A1 (nI i)).toNatClampNeg) < (k_markOf N K A1 (nI i) mk) then (k_markOf N K A1 (nI i) mk) else (A1 10 (k_spaceOf N K A1 (nI i)).toNatClampNeg))) _ _ ls hP hS (lv_sub hl [2, 3, 0] rfl)
def k_fillFromAllThings (N K : Nat) (A : Nat → Nat → Int32) (mk : Int32) : (Nat → Nat → Int32) := k_fillFromAllThings_10 N K mk N 0 (fU A)
set_option maxHeartbeats 4000000 in
set_option maxRecDepth 100000 in
theorem ck_fillFromAllThings (l : Launch) (D : va_G) (a : Nat → Nat) (cI cII : ClassId) (N K : Nat) (A : Nat → Nat → Int32) (hN : N ≤ 30) (hKK : K ≤ 10) (Z : Nat → Prop) (mk : Int32) : Met l y_C_fillFromAllThings (Cond.code y_C_fillFromAllThings b_C_fillFromAllThings 4 none :: BW) ({ frames := 5, cells := 0, slots := 0, locals := 112 } : Room) (PcW D Z (wC a cI cII (nI N) (nI K) A) (tC cI cII) [.ref (a 0), .int mk]) (va_Qv (fun u => u = k_fillFromAllThings N K A mk) (atW D (fun u => wC a cI cII (nI N) (nI K) u) (tC cI cII)) Z) 0 0 Z := by
  refine wStartV (by decide) rfl (Nat.le_of_ble_eq_true rfl) (fun p e s m below meth c Sx hr hlk hP hK hD hS ls hl => ?_)
  obtain ⟨hx, hb, hml, hown, hts⟩ := id Sx
  have hl : lv_has ls 4 [(0, .ref (a 0)), (1, .int mk)] := hl
  refine lv_aload_n hx hb d_C_fillFromAllThings_0 rfl (lv_at hl 0 rfl) ?_
  refine va_get (D := D) (ci := 0) (v := .ref (a 13)) (C := R_C) (T := F_C) (N := 9) hx hb hts i_C hown hK hP 0 rfl rfl 8 (by decide) (hts _ fl_C_37) (fun _ h9 => h9) rfl d_C_fillFromAllThings_1 ?_
  refine lv_iconst (v := (0 : Int32)) hx hb d_C_fillFromAllThings_4 (by decide) ?_
  refine x_fill13 Sx v_A_fill ⟨rfl, rfl, Nat.le_of_ble_eq_true rfl, Nat.le_of_ble_eq_true rfl⟩ hK hP (wC_D hD) hS hl.1 (Nat.le_of_ble_eq_true rfl) d_C_fillFromAllThings_5 ⟨Nat.le_of_ble_eq_true rfl, Nat.le_of_ble_eq_true rfl⟩ (fun H locs hP hS => ?_)
  have hP : va_P D classes (wC a cI cII (nI N) (nI K) (fU A)) H := hP
  refine lv_iconst (v := (0 : Int32)) hx hb d_C_fillFromAllThings_8 (by decide) ?_
  refine lv_istore_n (lv' := [(2, .int (0 : Int32)), (0, .ref (a 0)), (1, .int mk)]) hx hb d_C_fillFromAllThings_9 rfl hl (by decide) rfl (fun ls hl => ?_)
  have e_10 : k_fillFromAllThings N K A mk = k_fillFromAllThings_10 N K mk N 0 (fU A) := by rw [k_fillFromAllThings]
  rw [e_10]
  exact wk_fillFromAllThings_10 l D a cI cII N K (fU A) hN hKK Z mk Sx hr hlk (wC_D hD) hK N 0 (by omega) (fU A) _ _ ls hP hS (lv_sub hl [1, 2, 0] rfl)

def k_fillFromOneSpace (N K : Nat) (A : Nat → Nat → Int32) (src mk : Int32) : (Nat → Nat → Int32) := (if (k_isThing N K (fU A) src) = (0 : Int32) then k_spread N K (fU A) mk else k_spread N K (sU (fU A) 10 src.toNatClampNeg (1000 : Int32)) mk)
set_option maxHeartbeats 4000000 in
set_option maxRecDepth 100000 in
theorem ck_fillFromOneSpace (l : Launch) (D : va_G) (a : Nat → Nat) (cI cII : ClassId) (N K : Nat) (A : Nat → Nat → Int32) (hN : N ≤ 30) (hKK : K ≤ 10) (Z : Nat → Prop) (src mk : Int32) : Met l y_C_fillFromOneSpace (Cond.code y_C_fillFromOneSpace b_C_fillFromOneSpace 3 none :: BW) ({ frames := 5, cells := 0, slots := 0, locals := 112 } : Room) (PcW D Z (wC a cI cII (nI N) (nI K) A) (tC cI cII) [.ref (a 0), .int src, .int mk]) (va_Qv (fun u => u = k_fillFromOneSpace N K A src mk) (atW D (fun u => wC a cI cII (nI N) (nI K) u) (tC cI cII)) Z) 0 0 Z := by
  refine wStartV (by decide) rfl (Nat.le_of_ble_eq_true rfl) (fun p e s m below meth c Sx hr hlk hP hK hD hS ls hl => ?_)
  obtain ⟨hx, hb, hml, hown, hts⟩ := id Sx
  have hl : lv_has ls 3 [(0, .ref (a 0)), (1, .int src), (2, .int mk)] := hl
  refine lv_aload_n hx hb d_C_fillFromOneSpace_0 rfl (lv_at hl 0 rfl) ?_
  refine va_get (D := D) (ci := 0) (v := .ref (a 13)) (C := R_C) (T := F_C) (N := 9) hx hb hts i_C hown hK hP 0 rfl rfl 8 (by decide) (hts _ fl_C_37) (fun _ h9 => h9) rfl d_C_fillFromOneSpace_1 ?_
  refine lv_iconst (v := (0 : Int32)) hx hb d_C_fillFromOneSpace_4 (by decide) ?_
  refine x_fill13 Sx v_A_fill ⟨rfl, rfl, Nat.le_of_ble_eq_true rfl, Nat.le_of_ble_eq_true rfl⟩ hK hP (wC_D hD) hS hl.1 (Nat.le_of_ble_eq_true rfl) d_C_fillFromOneSpace_5 ⟨Nat.le_of_ble_eq_true rfl, Nat.le_of_ble_eq_true rfl⟩ (fun H locs hP hS => ?_)
  have hP : va_P D classes (wC a cI cII (nI N) (nI K) (fU A)) H := hP
  refine lv_aload_n hx hb d_C_fillFromOneSpace_8 rfl (lv_at hl 0 rfl) ?_
  refine lv_iload_n hx hb d_C_fillFromOneSpace_9 rfl (lv_at hl 1 rfl) ?_
  refine xro (As := [.int src]) (rest := []) Sx (ck_isThing l D a cI cII N K (fU A) hN hKK src) v_C_isThing ⟨rfl, rfl, Nat.le_of_ble_eq_true rfl, Nat.le_of_ble_eq_true rfl⟩ hK hP (ci := 0) (q0 := 0) rfl rfl rfl hl.1 rfl (Nat.le_of_ble_eq_true rfl) d_C_fillFromOneSpace_10 ⟨Nat.le_of_ble_eq_true rfl, Nat.le_of_ble_eq_true rfl⟩ (fun r hq => ?_)
  subst hq
  refine lv_if_eq (tgt := 25) hx hb d_C_fillFromOneSpace_13 (by decide) (fun c_13 => ?_) (fun c_13 => ?_)
  · refine lv_aload_n hx hb d_C_fillFromOneSpace_25 rfl (lv_at hl 0 rfl) ?_
    refine lv_iload_n hx hb d_C_fillFromOneSpace_26 rfl (lv_at hl 2 rfl) ?_
    refine xwv (As := [.int mk]) (rest := []) Sx (ck_spread l D a cI cII N K (fU A) hN hKK Z mk) v_C_spread ⟨rfl, rfl, Nat.le_of_ble_eq_true rfl, Nat.le_of_ble_eq_true rfl⟩ hK hP (ci := 0) (q0 := 0) rfl rfl (wC_D hD) hS (fun _ h => h) rfl hl.1 rfl (Nat.le_of_ble_eq_true rfl) d_C_fillFromOneSpace_27 ⟨Nat.le_of_ble_eq_true rfl, Nat.le_of_ble_eq_true rfl⟩ (fun u H locs hu hP hS => ?_)
    subst hu
    have hP : va_P D classes (wC a cI cII (nI N) (nI K) (k_spread N K (fU A) mk)) H := hP
    exact wRetV (u := k_spread N K (fU A) mk) hx hb hr hlk (show k_spread N K (fU A) mk = k_fillFromOneSpace N K A src mk from by rw [k_fillFromOneSpace, if_pos c_13]) hP hK hS d_C_fillFromOneSpace_30
  · refine lv_aload_n hx hb d_C_fillFromOneSpace_16 rfl (lv_at hl 0 rfl) ?_
    refine va_get (D := D) (ci := 0) (v := .ref (a 13)) (C := R_C) (T := F_C) (N := 9) hx hb hts i_C hown hK hP 0 rfl rfl 8 (by decide) (hts _ fl_C_37) (fun _ h9 => h9) rfl d_C_fillFromOneSpace_17 ?_
    refine lv_iload_n hx hb d_C_fillFromOneSpace_20 rfl (lv_at hl 1 rfl) ?_
    refine lv_sipush (v := (1000 : Int32)) hx hb d_C_fillFromOneSpace_21 (by decide) ?_
    refine va_iast (n := 30) hx hb hK hP (wC_D hD) hS 13 0 rfl rfl (in_isThing hN c_13) d_C_fillFromOneSpace_24 (fun H locs hP _ hS => ?_)
    have hP : va_P D classes (wC a cI cII (nI N) (nI K) (sU (fU A) 10 src.toNatClampNeg (1000 : Int32))) H := hP
    refine lv_aload_n hx hb d_C_fillFromOneSpace_25 rfl (lv_at hl 0 rfl) ?_
    refine lv_iload_n hx hb d_C_fillFromOneSpace_26 rfl (lv_at hl 2 rfl) ?_
    refine xwv (As := [.int mk]) (rest := []) Sx (ck_spread l D a cI cII N K (sU (fU A) 10 src.toNatClampNeg (1000 : Int32)) hN hKK Z mk) v_C_spread ⟨rfl, rfl, Nat.le_of_ble_eq_true rfl, Nat.le_of_ble_eq_true rfl⟩ hK hP (ci := 0) (q0 := 0) rfl rfl (wC_D hD) hS (fun _ h => h) rfl hl.1 rfl (Nat.le_of_ble_eq_true rfl) d_C_fillFromOneSpace_27 ⟨Nat.le_of_ble_eq_true rfl, Nat.le_of_ble_eq_true rfl⟩ (fun u H locs hu hP hS => ?_)
    subst hu
    have hP : va_P D classes (wC a cI cII (nI N) (nI K) (k_spread N K (sU (fU A) 10 src.toNatClampNeg (1000 : Int32)) mk)) H := hP
    exact wRetV (u := k_spread N K (sU (fU A) 10 src.toNatClampNeg (1000 : Int32)) mk) hx hb hr hlk (show k_spread N K (sU (fU A) 10 src.toNatClampNeg (1000 : Int32)) mk = k_fillFromOneSpace N K A src mk from by rw [k_fillFromOneSpace, if_neg c_13]) hP hK hS d_C_fillFromOneSpace_30

def k_thing_55 (N K : Nat) (u2 : Int32) : Nat → Nat → (Nat → Nat → Int32) → Int32 × Nat × Nat × (Nat → Nat → Int32)
  | 0, i, A1 => (u2, (N, K, A1))
  | k + 1, i, A1 => k_thing_55 N K u2 k (i + 1) (sU A1 (2 + (nI i).toNatClampNeg) u2.toNatClampNeg (0 : Int32))
theorem k_thing_55_0 (N K : Nat) (u2 : Int32) (i : Nat) (A1 : (Nat → Nat → Int32)) : k_thing_55 N K u2 0 i A1 = (u2, (N, K, A1)) := rfl
theorem k_thing_55_S (N K : Nat) (u2 : Int32) (k i : Nat) (A1 : (Nat → Nat → Int32)) : k_thing_55 N K u2 (k + 1) i A1 = k_thing_55 N K u2 k (i + 1) (sU A1 (2 + (nI i).toNatClampNeg) u2.toNatClampNeg (0 : Int32)) := rfl
set_option maxHeartbeats 4000000 in
set_option maxRecDepth 100000 in
theorem wk_thing_55 (l : Launch) (D : va_G) (a : Nat → Nat) (cI cII : ClassId) (N K : Nat) (A : Nat → Nat → Int32) (hN : N ≤ 30) (hKK : K ≤ 10) (Z : Nat → Prop) (srt u2 : Int32) (hu2 : vp_in u2 30) {p : Program} {e : Env} {s : State} {m : MethodId} {below : List Frame} {meth : Method} {c : Code} (Sx : CallFix p m c b_C_thing 4 s ([.ref (a 0), .int srt] : List Value).toArray BW R_C) (hr : meth.sig.returnType = (some .int)) (hlk : meth.locks = false) (hD : va_D Z (wC a cI cII (nI N) (nI K) A)) (hK : va_K D classes (tC cI cII) s) : ∀ (k i : Nat), i + k = 4 → ∀ (A1 : (Nat → Nat → Int32)) (H : Heap) (locs : List Loc) (ls : Array Slot), va_P D classes (wC a cI cII (nI N) (nI K) A1) H → va_S Z s.heap H locs → lv_has ls 4 [(0, .ref (a 0)), (1, .int srt), (2, .int u2), (3, .int (nI i))] → W p l e ({ frames := 0, cells := 0, slots := 0, locals := 0 } : Room) s m ([.ref (a 0), .int srt] : List Value).toArray below meth c H locs 0 0 (MQ below (va_Qi (fun r u => r = (k_thing_55 N K u2 k i A1).1 ∧ u = (k_thing_55 N K u2 k i A1).2) (atW D (fun u => wC a cI cII (nI u.1) (nI u.2.1) u.2.2) (tC cI cII)) Z) ([.ref (a 0), .int srt] : List Value).toArray s 0 0 Z) (F0 m 55 ls []) := by
  obtain ⟨hx, hb, hml, hown, hts⟩ := id Sx
  intro k
  induction k with
  | zero =>
    intro i hi A1 H locs ls hP hS hl
    refine lv_iload_n hx hb d_C_thing_55 rfl (lv_at hl 3 rfl) ?_
    refine lv_iconst (v := (4 : Int32)) hx hb d_C_thing_56 (by decide) ?_
    refine lv_icmp_ge (tgt := 75) hx hb d_C_thing_57 (by decide) (fun c_57 => ?_) (fun c_57 => absurd (nI_le (a := 4) (b := i) (by omega) (by omega)) c_57)
    refine lv_iload_n hx hb d_C_thing_75 rfl (lv_at hl 2 rfl) ?_
    exact wRet (u := (N, K, A1)) hx hb hr rfl hlk (show u2 = (k_thing_55 N K u2 0 i A1).1 ∧ (N, K, A1) = (k_thing_55 N K u2 0 i A1).2 from by rw [k_thing_55_0]; exact ⟨rfl, rfl⟩) hP hK hS d_C_thing_76
  | succ k ih =>
    intro i hi A1 H locs ls hP hS hl
    refine lv_iload_n hx hb d_C_thing_55 rfl (lv_at hl 3 rfl) ?_
    refine lv_iconst (v := (4 : Int32)) hx hb d_C_thing_56 (by decide) ?_
    refine lv_icmp_ge (tgt := 75) hx hb d_C_thing_57 (by decide) (fun c_57 => absurd c_57 (nI_ge (a := i) (b := 4) (by omega) (by omega))) (fun c_57 => ?_)
    refine lv_aload_n hx hb d_C_thing_60 rfl (lv_at hl 0 rfl) ?_
    refine va_get (D := D) (ci := 0) (v := .ref (a 3)) (C := R_C) (T := F_C) (N := 9) hx hb hts i_C hown hK hP 0 rfl rfl 3 (by decide) (hts _ fl_C_22) (fun _ h9 => h9) rfl d_C_thing_61 ?_
    refine lv_iload_n hx hb d_C_thing_64 rfl (lv_at hl 3 rfl) ?_
    refine x_ald4 hx hb hK hP (vp_in_nI (by omega) (by omega)) d_C_thing_65 ?_
    refine lv_iload_n hx hb d_C_thing_66 rfl (lv_at hl 2 rfl) ?_
    refine lv_iconst (v := (0 : Int32)) hx hb d_C_thing_67 (by decide) ?_
    refine va_iast (n := 30) hx hb hK hP (wC_D hD) hS (4 + (nI i).toNatClampNeg) 0 (wC_row4 (vp_lt (vp_in_nI (by omega) (by omega)))) rfl (hu2) d_C_thing_68 (fun H locs hP _ hS => ?_)
    have hP : va_P D classes (wC a cI cII (nI N) (nI K) (sU A1 (2 + (nI i).toNatClampNeg) u2.toNatClampNeg (0 : Int32))) H := by have h9 := hP; rw [wC_set4 (j := (nI i).toNatClampNeg) (vp_lt (vp_in_nI (by omega) (by omega)))] at h9; exact h9
    refine lv_iinc (v := nI (i + 1)) (lv' := [(3, .int (nI (i + 1))), (0, .ref (a 0)), (1, .int srt), (2, .int u2)]) hx hb d_C_thing_69 hl (k := 3) rfl (nI_1 i) (by decide) rfl (fun ls hl => ?_)
    refine lv_goto (tgt := 55) hx hb d_C_thing_72 (by decide) ?_
    have e_b : k_thing_55 N K u2 (k + 1) i A1 = k_thing_55 N K u2 k (i + 1) (sU A1 (2 + (nI i).toNatClampNeg) u2.toNatClampNeg (0 : Int32)) := by rw [k_thing_55_S]
    rw [e_b]
    exact ih (i + 1) (by omega) (sU A1 (2 + (nI i).toNatClampNeg) u2.toNatClampNeg (0 : Int32)) _ _ ls hP hS (lv_sub hl [1, 2, 3, 0] rfl)
def k_thing (N K : Nat) (A : Nat → Nat → Int32) (srt : Int32) : Int32 × Nat × Nat × (Nat → Nat → Int32) := (if srt < (0 : Int32) then ((-3 : Int32), (N, K, A)) else (if srt ≤ (4 : Int32) then (if (nI N) < (30 : Int32) then k_thing_55 (N + 1) K (nI N) 4 0 (sU (sU A 0 (nI N).toNatClampNeg srt) 1 (nI N).toNatClampNeg (-1 : Int32)) else ((-7 : Int32), (N, K, A))) else ((-3 : Int32), (N, K, A))))
set_option maxHeartbeats 4000000 in
set_option maxRecDepth 100000 in
theorem ck_thing (l : Launch) (D : va_G) (a : Nat → Nat) (cI cII : ClassId) (N K : Nat) (A : Nat → Nat → Int32) (hN : N ≤ 30) (hKK : K ≤ 10) (Z : Nat → Prop) (srt : Int32) : Met l y_C_thing (Cond.code y_C_thing b_C_thing 4 (some .int) :: BW) ({ frames := 0, cells := 0, slots := 0, locals := 0 } : Room) (PcW D Z (wC a cI cII (nI N) (nI K) A) (tC cI cII) [.ref (a 0), .int srt]) (va_Qi (fun r u => r = (k_thing N K A srt).1 ∧ u = (k_thing N K A srt).2) (atW D (fun u => wC a cI cII (nI u.1) (nI u.2.1) u.2.2) (tC cI cII)) Z) 0 0 Z := by
  refine wStart (by decide) rfl (Nat.le_of_ble_eq_true rfl) (fun p e s m below meth c Sx hr hlk hP hK hD hS ls hl => ?_)
  obtain ⟨hx, hb, hml, hown, hts⟩ := id Sx
  have hl : lv_has ls 4 [(0, .ref (a 0)), (1, .int srt)] := hl
  refine lv_iload_n hx hb d_C_thing_0 rfl (lv_at hl 1 rfl) ?_
  refine lv_if_lt (tgt := 9) hx hb d_C_thing_1 (by decide) (fun c_1 => ?_) (fun c_1 => ?_)
  · refine lv_bipush (v := (-3 : Int32)) hx hb d_C_thing_9 (by decide) ?_
    exact wRet (u := (N, K, A)) hx hb hr rfl hlk (show (-3 : Int32) = (k_thing N K A srt).1 ∧ (N, K, A) = (k_thing N K A srt).2 from by rw [k_thing, if_pos c_1]; exact ⟨rfl, rfl⟩) hP hK hS d_C_thing_11
  · refine lv_iload_n hx hb d_C_thing_4 rfl (lv_at hl 1 rfl) ?_
    refine lv_iconst (v := (4 : Int32)) hx hb d_C_thing_5 (by decide) ?_
    refine lv_icmp_le (tgt := 12) hx hb d_C_thing_6 (by decide) (fun c_6 => ?_) (fun c_6 => ?_)
    · refine lv_aload_n hx hb d_C_thing_12 rfl (lv_at hl 0 rfl) ?_
      refine va_get (D := D) (ci := 0) (v := .int (nI N)) (C := R_C) (T := F_C) (N := 9) hx hb hts i_C hown hK hP 0 rfl rfl 0 (by decide) (hts _ fl_C_7) (fun _ h9 => h9) rfl d_C_thing_13 ?_
      refine lv_bipush (v := (30 : Int32)) hx hb d_C_thing_16 (by decide) ?_
      refine lv_icmp_lt (tgt := 24) hx hb d_C_thing_18 (by decide) (fun c_18 => ?_) (fun c_18 => ?_)
      · refine lv_aload_n hx hb d_C_thing_24 rfl (lv_at hl 0 rfl) ?_
        refine va_get (D := D) (ci := 0) (v := .int (nI N)) (C := R_C) (T := F_C) (N := 9) hx hb hts i_C hown hK hP 0 rfl rfl 0 (by decide) (hts _ fl_C_7) (fun _ h9 => h9) rfl d_C_thing_25 ?_
        refine lv_istore_n (lv' := [(2, .int (nI N)), (0, .ref (a 0)), (1, .int srt)]) hx hb d_C_thing_28 rfl hl (by decide) rfl (fun ls hl => ?_)
        refine lv_aload_n hx hb d_C_thing_29 rfl (lv_at hl 1 rfl) ?_
        refine lv_dup hx hb d_C_thing_30 rfl ?_
        refine va_get (D := D) (ci := 0) (v := .int (nI N)) (C := R_C) (T := F_C) (N := 9) hx hb hts i_C hown hK hP 0 rfl rfl 0 (by decide) (hts _ fl_C_7) (fun _ h9 => h9) rfl d_C_thing_31 ?_
        refine lv_iconst (v := (1 : Int32)) hx hb d_C_thing_34 (by decide) ?_
        refine x_iadd1 hx hb d_C_thing_35 ?_
        refine va_put (D := D) (ci := 0) (v := .int (nI (N + 1))) (ty := .int) (C := R_C) (T := F_C) (N := 9) hx hb hts i_C t_C t_C_ok n_C hown hK hP (wC_D hD) hS 0 rfl rfl 0 (by decide) (hts _ fl_C_7) (fun _ h9 => h9) rfl (by decide +kernel) rfl rfl (Nat.le_of_ble_eq_true rfl) d_C_thing_36 (fun H locs hP _ hS => ?_)
        have hP : va_P D classes (wC a cI cII (nI (N + 1)) (nI K) A) H := hP
        refine lv_aload_n hx hb d_C_thing_39 rfl (lv_at hl 1 rfl) ?_
        refine va_get (D := D) (ci := 0) (v := .ref (a 1)) (C := R_C) (T := F_C) (N := 9) hx hb hts i_C hown hK hP 0 rfl rfl 1 (by decide) (hts _ fl_C_13) (fun _ h9 => h9) rfl d_C_thing_40 ?_
        refine lv_iload_n hx hb d_C_thing_43 rfl (lv_at hl 0 rfl) ?_
        refine lv_iload_n hx hb d_C_thing_44 rfl (lv_at hl 2 rfl) ?_
        refine va_iast (n := 30) hx hb hK hP (wC_D hD) hS 1 0 rfl rfl (vp_in_nI ((nI_ltI (a := N) (b := 30) (by omega) (by omega)).mp c_18) (by omega)) d_C_thing_45 (fun H locs hP _ hS => ?_)
        have hP : va_P D classes (wC a cI cII (nI (N + 1)) (nI K) (sU A 0 (nI N).toNatClampNeg srt)) H := hP
        refine lv_aload_n hx hb d_C_thing_46 rfl (lv_at hl 1 rfl) ?_
        refine va_get (D := D) (ci := 0) (v := .ref (a 2)) (C := R_C) (T := F_C) (N := 9) hx hb hts i_C hown hK hP 0 rfl rfl 2 (by decide) (hts _ fl_C_17) (fun _ h9 => h9) rfl d_C_thing_47 ?_
        refine lv_iload_n hx hb d_C_thing_50 rfl (lv_at hl 0 rfl) ?_
        refine lv_iconst (v := (-1 : Int32)) hx hb d_C_thing_51 (by decide) ?_
        refine va_iast (n := 30) hx hb hK hP (wC_D hD) hS 2 0 rfl rfl (vp_in_nI ((nI_ltI (a := N) (b := 30) (by omega) (by omega)).mp c_18) (by omega)) d_C_thing_52 (fun H locs hP _ hS => ?_)
        have hP : va_P D classes (wC a cI cII (nI (N + 1)) (nI K) (sU (sU A 0 (nI N).toNatClampNeg srt) 1 (nI N).toNatClampNeg (-1 : Int32))) H := hP
        refine lv_iconst (v := (0 : Int32)) hx hb d_C_thing_53 (by decide) ?_
        refine lv_istore_n (lv' := [(3, .int (0 : Int32)), (2, .int (nI N)), (0, .ref (a 0)), (1, .int srt)]) hx hb d_C_thing_54 rfl hl (by decide) rfl (fun ls hl => ?_)
        have e_55 : k_thing N K A srt = k_thing_55 (N + 1) K (nI N) 4 0 (sU (sU A 0 (nI N).toNatClampNeg srt) 1 (nI N).toNatClampNeg (-1 : Int32)) := by rw [k_thing, if_neg c_1, if_pos c_6, if_pos c_18]
        rw [e_55]
        exact wk_thing_55 l D a cI cII (N + 1) K (sU (sU A 0 (nI N).toNatClampNeg srt) 1 (nI N).toNatClampNeg (-1 : Int32)) ((nI_ltI (a := N) (b := 30) (by omega) (by omega)).mp c_18) hKK Z srt (nI N) (vp_in_nI ((nI_ltI (a := N) (b := 30) (by omega) (by omega)).mp c_18) (by omega)) Sx hr hlk (wC_D hD) hK 4 0 (by omega) (sU (sU A 0 (nI N).toNatClampNeg srt) 1 (nI N).toNatClampNeg (-1 : Int32)) _ _ ls hP hS (lv_sub hl [2, 3, 1, 0] rfl)
      · refine lv_bipush (v := (-7 : Int32)) hx hb d_C_thing_21 (by decide) ?_
        exact wRet (u := (N, K, A)) hx hb hr rfl hlk (show (-7 : Int32) = (k_thing N K A srt).1 ∧ (N, K, A) = (k_thing N K A srt).2 from by rw [k_thing, if_neg c_1, if_pos c_6, if_neg c_18]; exact ⟨rfl, rfl⟩) hP hK hS d_C_thing_23
    · refine lv_bipush (v := (-3 : Int32)) hx hb d_C_thing_9 (by decide) ?_
      exact wRet (u := (N, K, A)) hx hb hr rfl hlk (show (-3 : Int32) = (k_thing N K A srt).1 ∧ (N, K, A) = (k_thing N K A srt).2 from by rw [k_thing, if_neg c_1, if_neg c_6]; exact ⟨rfl, rfl⟩) hP hK hS d_C_thing_11

def k_clear (N K : Nat) (A : Nat → Nat → Int32) : Int32 × Nat × Nat × (Nat → Nat → Int32) := (nI N, (0, 0, A))
set_option maxHeartbeats 4000000 in
set_option maxRecDepth 100000 in
theorem ck_clear (l : Launch) (D : va_G) (a : Nat → Nat) (cI cII : ClassId) (N K : Nat) (A : Nat → Nat → Int32) (hN : N ≤ 30) (hKK : K ≤ 10) (Z : Nat → Prop) : Met l y_C_clear (Cond.code y_C_clear b_C_clear 2 (some .int) :: BW) ({ frames := 0, cells := 0, slots := 0, locals := 0 } : Room) (PcW D Z (wC a cI cII (nI N) (nI K) A) (tC cI cII) [.ref (a 0)]) (va_Qi (fun r u => r = (k_clear N K A).1 ∧ u = (k_clear N K A).2) (atW D (fun u => wC a cI cII (nI u.1) (nI u.2.1) u.2.2) (tC cI cII)) Z) 0 0 Z := by
  refine wStart (by decide) rfl (Nat.le_of_ble_eq_true rfl) (fun p e s m below meth c Sx hr hlk hP hK hD hS ls hl => ?_)
  obtain ⟨hx, hb, hml, hown, hts⟩ := id Sx
  have hl : lv_has ls 2 [(0, .ref (a 0))] := hl
  refine lv_aload_n hx hb d_C_clear_0 rfl (lv_at hl 0 rfl) ?_
  refine va_get (D := D) (ci := 0) (v := .int (nI N)) (C := R_C) (T := F_C) (N := 9) hx hb hts i_C hown hK hP 0 rfl rfl 0 (by decide) (hts _ fl_C_7) (fun _ h9 => h9) rfl d_C_clear_1 ?_
  refine lv_istore_n (lv' := [(1, .int (nI N)), (0, .ref (a 0))]) hx hb d_C_clear_4 rfl hl (by decide) rfl (fun ls hl => ?_)
  refine lv_aload_n hx hb d_C_clear_5 rfl (lv_at hl 1 rfl) ?_
  refine lv_iconst (v := (0 : Int32)) hx hb d_C_clear_6 (by decide) ?_
  refine va_put (D := D) (ci := 0) (v := .int (0 : Int32)) (ty := .int) (C := R_C) (T := F_C) (N := 9) hx hb hts i_C t_C t_C_ok n_C hown hK hP (wC_D hD) hS 0 rfl rfl 0 (by decide) (hts _ fl_C_7) (fun _ h9 => h9) rfl (by decide +kernel) rfl rfl (Nat.le_of_ble_eq_true rfl) d_C_clear_7 (fun H locs hP _ hS => ?_)
  have hP : va_P D classes (wC a cI cII (nI 0) (nI K) A) H := hP
  refine lv_aload_n hx hb d_C_clear_10 rfl (lv_at hl 1 rfl) ?_
  refine lv_iconst (v := (0 : Int32)) hx hb d_C_clear_11 (by decide) ?_
  refine va_put (D := D) (ci := 0) (v := .int (0 : Int32)) (ty := .int) (C := R_C) (T := F_C) (N := 9) hx hb hts i_C t_C t_C_ok n_C hown hK hP (wC_D hD) hS 0 rfl rfl 4 (by decide) (hts _ fl_C_25) (fun _ h9 => h9) rfl (by decide +kernel) rfl rfl (Nat.le_of_ble_eq_true rfl) d_C_clear_12 (fun H locs hP _ hS => ?_)
  have hP : va_P D classes (wC a cI cII (nI 0) (nI 0) A) H := hP
  refine lv_iload_n hx hb d_C_clear_15 rfl (lv_at hl 0 rfl) ?_
  exact wRet (u := (0, 0, A)) hx hb hr rfl hlk (show nI N = (k_clear N K A).1 ∧ (0, 0, A) = (k_clear N K A).2 from by rw [k_clear]; exact ⟨rfl, rfl⟩) hP hK hS d_C_clear_16

def k_put (N K : Nat) (A : Nat → Nat → Int32) (x hd : Int32) : Int32 × (Nat → Nat → Int32) := (if (k_isThing N K A x) = (0 : Int32) then ((-2 : Int32), A) else (if (k_sortOf N K A x) = (0 : Int32) then ((-2 : Int32), A) else (if hd = (-1 : Int32) then (A 1 x.toNatClampNeg, sU A 1 x.toNatClampNeg (-1 : Int32)) else (if (k_isThing N K A hd) = (0 : Int32) then ((-2 : Int32), A) else (if (k_sortOf N K A hd) = (4 : Int32) then ((-2 : Int32), A) else (if hd = x then ((-4 : Int32), A) else (if (k_isWithin N K A hd x) = (0 : Int32) then (if hd = (A 1 x.toNatClampNeg) then (A 1 x.toNatClampNeg, sU A 1 x.toNatClampNeg hd) else (if (k_isFull N K A hd) = (0 : Int32) then (A 1 x.toNatClampNeg, sU A 1 x.toNatClampNeg hd) else ((-7 : Int32), A))) else ((-4 : Int32), A))))))))
set_option maxHeartbeats 4000000 in
set_option maxRecDepth 100000 in
theorem ck_put (l : Launch) (D : va_G) (a : Nat → Nat) (cI cII : ClassId) (N K : Nat) (A : Nat → Nat → Int32) (hN : N ≤ 30) (hKK : K ≤ 10) (Z : Nat → Prop) (x hd : Int32) : Met l y_C_put (Cond.code y_C_put b_C_put 4 (some .int) :: BW) ({ frames := 3, cells := 0, slots := 0, locals := 66 } : Room) (PcW D Z (wC a cI cII (nI N) (nI K) A) (tC cI cII) [.ref (a 0), .int x, .int hd]) (va_Qi (fun r u => r = (k_put N K A x hd).1 ∧ u = (k_put N K A x hd).2) (atW D (fun u => wC a cI cII (nI N) (nI K) u) (tC cI cII)) Z) 0 0 Z := by
  refine wStart (by decide) rfl (Nat.le_of_ble_eq_true rfl) (fun p e s m below meth c Sx hr hlk hP hK hD hS ls hl => ?_)
  obtain ⟨hx, hb, hml, hown, hts⟩ := id Sx
  have hl : lv_has ls 4 [(0, .ref (a 0)), (1, .int x), (2, .int hd)] := hl
  refine lv_aload_n hx hb d_C_put_0 rfl (lv_at hl 0 rfl) ?_
  refine lv_iload_n hx hb d_C_put_1 rfl (lv_at hl 1 rfl) ?_
  refine xro (As := [.int x]) (rest := []) Sx (ck_isThing l D a cI cII N K A hN hKK x) v_C_isThing ⟨rfl, rfl, Nat.le_of_ble_eq_true rfl, Nat.le_of_ble_eq_true rfl⟩ hK hP (ci := 0) (q0 := 0) rfl rfl rfl hl.1 rfl (Nat.le_of_ble_eq_true rfl) d_C_put_2 ⟨Nat.le_of_ble_eq_true rfl, Nat.le_of_ble_eq_true rfl⟩ (fun r hq => ?_)
  subst hq
  refine lv_if_eq (tgt := 16) hx hb d_C_put_5 (by decide) (fun c_5 => ?_) (fun c_5 => ?_)
  · refine lv_bipush (v := (-2 : Int32)) hx hb d_C_put_16 (by decide) ?_
    exact wRet (u := A) hx hb hr rfl hlk (show (-2 : Int32) = (k_put N K A x hd).1 ∧ A = (k_put N K A x hd).2 from by rw [k_put, if_pos c_5]; exact ⟨rfl, rfl⟩) hP hK hS d_C_put_18
  · refine lv_aload_n hx hb d_C_put_8 rfl (lv_at hl 0 rfl) ?_
    refine lv_iload_n hx hb d_C_put_9 rfl (lv_at hl 1 rfl) ?_
    refine xro (As := [.int x]) (rest := []) Sx (ck_sortOf l D a cI cII N K A hN hKK x) v_C_sortOf ⟨rfl, rfl, Nat.le_of_ble_eq_true rfl, Nat.le_of_ble_eq_true rfl⟩ hK hP (ci := 0) (q0 := 0) rfl rfl rfl hl.1 rfl (Nat.le_of_ble_eq_true rfl) d_C_put_10 ⟨Nat.le_of_ble_eq_true rfl, Nat.le_of_ble_eq_true rfl⟩ (fun r hq => ?_)
    subst hq
    refine lv_if_ne (tgt := 19) hx hb d_C_put_13 (by decide) (fun c_13 => ?_) (fun c_13 => ?_)
    · refine lv_aload_n hx hb d_C_put_19 rfl (lv_at hl 0 rfl) ?_
      refine va_get (D := D) (ci := 0) (v := .ref (a 2)) (C := R_C) (T := F_C) (N := 9) hx hb hts i_C hown hK hP 0 rfl rfl 2 (by decide) (hts _ fl_C_17) (fun _ h9 => h9) rfl d_C_put_20 ?_
      refine lv_iload_n hx hb d_C_put_23 rfl (lv_at hl 1 rfl) ?_
      refine va_iald (n := 30) hx hb hK hP 2 0 rfl rfl (in_isThing hN c_5) d_C_put_24 ?_
      refine lv_istore_n (lv' := [(3, .int (A 1 x.toNatClampNeg)), (0, .ref (a 0)), (1, .int x), (2, .int hd)]) hx hb d_C_put_25 rfl hl (by decide) rfl (fun ls hl => ?_)
      refine lv_iload_n hx hb d_C_put_26 rfl (lv_at hl 3 rfl) ?_
      refine lv_iconst (v := (-1 : Int32)) hx hb d_C_put_27 (by decide) ?_
      refine lv_icmp_ne (tgt := 40) hx hb d_C_put_28 (by decide) (fun c_28 => ?_) (fun c_28 => ?_)
      · refine lv_aload_n hx hb d_C_put_40 rfl (lv_at hl 1 rfl) ?_
        refine lv_iload_n hx hb d_C_put_41 rfl (lv_at hl 3 rfl) ?_
        refine xro (As := [.int hd]) (rest := []) Sx (ck_isThing l D a cI cII N K A hN hKK hd) v_C_isThing ⟨rfl, rfl, Nat.le_of_ble_eq_true rfl, Nat.le_of_ble_eq_true rfl⟩ hK hP (ci := 0) (q0 := 0) rfl rfl rfl hl.1 rfl (Nat.le_of_ble_eq_true rfl) d_C_put_42 ⟨Nat.le_of_ble_eq_true rfl, Nat.le_of_ble_eq_true rfl⟩ (fun r hq => ?_)
        subst hq
        refine lv_if_eq (tgt := 57) hx hb d_C_put_45 (by decide) (fun c_45 => ?_) (fun c_45 => ?_)
        · refine lv_bipush (v := (-2 : Int32)) hx hb d_C_put_57 (by decide) ?_
          exact wRet (u := A) hx hb hr rfl hlk (show (-2 : Int32) = (k_put N K A x hd).1 ∧ A = (k_put N K A x hd).2 from by rw [k_put, if_neg c_5, if_neg c_13, if_neg c_28, if_pos c_45]; exact ⟨rfl, rfl⟩) hP hK hS d_C_put_59
        · refine lv_aload_n hx hb d_C_put_48 rfl (lv_at hl 1 rfl) ?_
          refine lv_iload_n hx hb d_C_put_49 rfl (lv_at hl 3 rfl) ?_
          refine xro (As := [.int hd]) (rest := []) Sx (ck_sortOf l D a cI cII N K A hN hKK hd) v_C_sortOf ⟨rfl, rfl, Nat.le_of_ble_eq_true rfl, Nat.le_of_ble_eq_true rfl⟩ hK hP (ci := 0) (q0 := 0) rfl rfl rfl hl.1 rfl (Nat.le_of_ble_eq_true rfl) d_C_put_50 ⟨Nat.le_of_ble_eq_true rfl, Nat.le_of_ble_eq_true rfl⟩ (fun r hq => ?_)
          subst hq
          refine lv_iconst (v := (4 : Int32)) hx hb d_C_put_53 (by decide) ?_
          refine lv_icmp_ne (tgt := 60) hx hb d_C_put_54 (by decide) (fun c_54 => ?_) (fun c_54 => ?_)
          · refine lv_iload_n hx hb d_C_put_60 rfl (lv_at hl 3 rfl) ?_
            refine lv_iload_n hx hb d_C_put_61 rfl (lv_at hl 2 rfl) ?_
            refine lv_icmp_eq (tgt := 74) hx hb d_C_put_62 (by decide) (fun c_62 => ?_) (fun c_62 => ?_)
            · refine lv_bipush (v := (-4 : Int32)) hx hb d_C_put_74 (by decide) ?_
              exact wRet (u := A) hx hb hr rfl hlk (show (-4 : Int32) = (k_put N K A x hd).1 ∧ A = (k_put N K A x hd).2 from by rw [k_put, if_neg c_5, if_neg c_13, if_neg c_28, if_neg c_45, if_neg c_54, if_pos c_62]; exact ⟨rfl, rfl⟩) hP hK hS d_C_put_76
            · refine lv_aload_n hx hb d_C_put_65 rfl (lv_at hl 1 rfl) ?_
              refine lv_iload_n hx hb d_C_put_66 rfl (lv_at hl 3 rfl) ?_
              refine lv_iload_n hx hb d_C_put_67 rfl (lv_at hl 2 rfl) ?_
              refine xro (As := [.int hd, .int x]) (rest := []) Sx (ck_isWithin l D a cI cII N K A hN hKK hd x) v_C_isWithin ⟨rfl, rfl, Nat.le_of_ble_eq_true rfl, Nat.le_of_ble_eq_true rfl⟩ hK hP (ci := 0) (q0 := 0) rfl rfl rfl hl.1 rfl (Nat.le_of_ble_eq_true rfl) d_C_put_68 ⟨Nat.le_of_ble_eq_true rfl, Nat.le_of_ble_eq_true rfl⟩ (fun r hq => ?_)
              subst hq
              refine lv_if_eq (tgt := 77) hx hb d_C_put_71 (by decide) (fun c_71 => ?_) (fun c_71 => ?_)
              · refine lv_iload_n hx hb d_C_put_77 rfl (lv_at hl 3 rfl) ?_
                refine lv_iload_n hx hb d_C_put_78 rfl (lv_at hl 0 rfl) ?_
                refine lv_icmp_eq (tgt := 93) hx hb d_C_put_79 (by decide) (fun c_79 => ?_) (fun c_79 => ?_)
                · refine lv_aload_n hx hb d_C_put_93 rfl (lv_at hl 1 rfl) ?_
                  refine va_get (D := D) (ci := 0) (v := .ref (a 2)) (C := R_C) (T := F_C) (N := 9) hx hb hts i_C hown hK hP 0 rfl rfl 2 (by decide) (hts _ fl_C_17) (fun _ h9 => h9) rfl d_C_put_94 ?_
                  refine lv_iload_n hx hb d_C_put_97 rfl (lv_at hl 2 rfl) ?_
                  refine lv_iload_n hx hb d_C_put_98 rfl (lv_at hl 3 rfl) ?_
                  refine va_iast (n := 30) hx hb hK hP (wC_D hD) hS 2 0 rfl rfl (in_isThing hN c_5) d_C_put_99 (fun H locs hP _ hS => ?_)
                  have hP : va_P D classes (wC a cI cII (nI N) (nI K) (sU A 1 x.toNatClampNeg hd)) H := hP
                  refine lv_iload_n hx hb d_C_put_100 rfl (lv_at hl 0 rfl) ?_
                  exact wRet (u := sU A 1 x.toNatClampNeg hd) hx hb hr rfl hlk (show A 1 x.toNatClampNeg = (k_put N K A x hd).1 ∧ sU A 1 x.toNatClampNeg hd = (k_put N K A x hd).2 from by rw [k_put, if_neg c_5, if_neg c_13, if_neg c_28, if_neg c_45, if_neg c_54, if_neg c_62, if_pos c_71, if_pos c_79]; exact ⟨rfl, rfl⟩) hP hK hS d_C_put_101
                · refine lv_aload_n hx hb d_C_put_82 rfl (lv_at hl 1 rfl) ?_
                  refine lv_iload_n hx hb d_C_put_83 rfl (lv_at hl 3 rfl) ?_
                  refine xro (As := [.int hd]) (rest := []) Sx (ck_isFull l D a cI cII N K A hN hKK hd) v_C_isFull ⟨rfl, rfl, Nat.le_of_ble_eq_true rfl, Nat.le_of_ble_eq_true rfl⟩ hK hP (ci := 0) (q0 := 0) rfl rfl rfl hl.1 rfl (Nat.le_of_ble_eq_true rfl) d_C_put_84 ⟨Nat.le_of_ble_eq_true rfl, Nat.le_of_ble_eq_true rfl⟩ (fun r hq => ?_)
                  subst hq
                  refine lv_if_eq (tgt := 93) hx hb d_C_put_87 (by decide) (fun c_87 => ?_) (fun c_87 => ?_)
                  · refine lv_aload_n hx hb d_C_put_93 rfl (lv_at hl 1 rfl) ?_
                    refine va_get (D := D) (ci := 0) (v := .ref (a 2)) (C := R_C) (T := F_C) (N := 9) hx hb hts i_C hown hK hP 0 rfl rfl 2 (by decide) (hts _ fl_C_17) (fun _ h9 => h9) rfl d_C_put_94 ?_
                    refine lv_iload_n hx hb d_C_put_97 rfl (lv_at hl 2 rfl) ?_
                    refine lv_iload_n hx hb d_C_put_98 rfl (lv_at hl 3 rfl) ?_
                    refine va_iast (n := 30) hx hb hK hP (wC_D hD) hS 2 0 rfl rfl (in_isThing hN c_5) d_C_put_99 (fun H locs hP _ hS => ?_)
                    have hP : va_P D classes (wC a cI cII (nI N) (nI K) (sU A 1 x.toNatClampNeg hd)) H := hP
                    refine lv_iload_n hx hb d_C_put_100 rfl (lv_at hl 0 rfl) ?_
                    exact wRet (u := sU A 1 x.toNatClampNeg hd) hx hb hr rfl hlk (show A 1 x.toNatClampNeg = (k_put N K A x hd).1 ∧ sU A 1 x.toNatClampNeg hd = (k_put N K A x hd).2 from by rw [k_put, if_neg c_5, if_neg c_13, if_neg c_28, if_neg c_45, if_neg c_54, if_neg c_62, if_pos c_71, if_neg c_79, if_pos c_87]; exact ⟨rfl, rfl⟩) hP hK hS d_C_put_101
                  · refine lv_bipush (v := (-7 : Int32)) hx hb d_C_put_90 (by decide) ?_
                    exact wRet (u := A) hx hb hr rfl hlk (show (-7 : Int32) = (k_put N K A x hd).1 ∧ A = (k_put N K A x hd).2 from by rw [k_put, if_neg c_5, if_neg c_13, if_neg c_28, if_neg c_45, if_neg c_54, if_neg c_62, if_pos c_71, if_neg c_79, if_neg c_87]; exact ⟨rfl, rfl⟩) hP hK hS d_C_put_92
              · refine lv_bipush (v := (-4 : Int32)) hx hb d_C_put_74 (by decide) ?_
                exact wRet (u := A) hx hb hr rfl hlk (show (-4 : Int32) = (k_put N K A x hd).1 ∧ A = (k_put N K A x hd).2 from by rw [k_put, if_neg c_5, if_neg c_13, if_neg c_28, if_neg c_45, if_neg c_54, if_neg c_62, if_neg c_71]; exact ⟨rfl, rfl⟩) hP hK hS d_C_put_76
          · refine lv_bipush (v := (-2 : Int32)) hx hb d_C_put_57 (by decide) ?_
            exact wRet (u := A) hx hb hr rfl hlk (show (-2 : Int32) = (k_put N K A x hd).1 ∧ A = (k_put N K A x hd).2 from by rw [k_put, if_neg c_5, if_neg c_13, if_neg c_28, if_neg c_45, if_pos c_54]; exact ⟨rfl, rfl⟩) hP hK hS d_C_put_59
      · refine lv_aload_n hx hb d_C_put_31 rfl (lv_at hl 1 rfl) ?_
        refine va_get (D := D) (ci := 0) (v := .ref (a 2)) (C := R_C) (T := F_C) (N := 9) hx hb hts i_C hown hK hP 0 rfl rfl 2 (by decide) (hts _ fl_C_17) (fun _ h9 => h9) rfl d_C_put_32 ?_
        refine lv_iload_n hx hb d_C_put_35 rfl (lv_at hl 2 rfl) ?_
        refine lv_iconst (v := (-1 : Int32)) hx hb d_C_put_36 (by decide) ?_
        refine va_iast (n := 30) hx hb hK hP (wC_D hD) hS 2 0 rfl rfl (in_isThing hN c_5) d_C_put_37 (fun H locs hP _ hS => ?_)
        have hP : va_P D classes (wC a cI cII (nI N) (nI K) (sU A 1 x.toNatClampNeg (-1 : Int32))) H := hP
        refine lv_iload_n hx hb d_C_put_38 rfl (lv_at hl 0 rfl) ?_
        exact wRet (u := sU A 1 x.toNatClampNeg (-1 : Int32)) hx hb hr rfl hlk (show A 1 x.toNatClampNeg = (k_put N K A x hd).1 ∧ sU A 1 x.toNatClampNeg (-1 : Int32) = (k_put N K A x hd).2 from by rw [k_put, if_neg c_5, if_neg c_13, if_pos c_28]; exact ⟨rfl, rfl⟩) hP hK hS d_C_put_39
    · refine lv_bipush (v := (-2 : Int32)) hx hb d_C_put_16 (by decide) ?_
      exact wRet (u := A) hx hb hr rfl hlk (show (-2 : Int32) = (k_put N K A x hd).1 ∧ A = (k_put N K A x hd).2 from by rw [k_put, if_neg c_5, if_pos c_13]; exact ⟨rfl, rfl⟩) hP hK hS d_C_put_18

def k_set (N K : Nat) (A : Nat → Nat → Int32) (x what v : Int32) : Int32 × (Nat → Nat → Int32) := (if (k_isThing N K A x) = (0 : Int32) then ((-2 : Int32), A) else (if what = (0 : Int32) then (if (k_sortOf N K A x) = (1 : Int32) then (if what < (0 : Int32) then ((-3 : Int32), A) else (if (4 : Int32) ≤ what then ((-3 : Int32), A) else (if v < (0 : Int32) then ((-3 : Int32), A) else (if v ≤ (1 : Int32) then (A (2 + what.toNatClampNeg) x.toNatClampNeg, sU A (2 + what.toNatClampNeg) x.toNatClampNeg v) else ((-3 : Int32), A))))) else ((-2 : Int32), A)) else (if what = (1 : Int32) then (if (k_sortOf N K A x) = (1 : Int32) then (if what < (0 : Int32) then ((-3 : Int32), A) else (if (4 : Int32) ≤ what then ((-3 : Int32), A) else (if v < (0 : Int32) then ((-3 : Int32), A) else (if v ≤ (1 : Int32) then (A (2 + what.toNatClampNeg) x.toNatClampNeg, sU A (2 + what.toNatClampNeg) x.toNatClampNeg v) else ((-3 : Int32), A))))) else ((-2 : Int32), A)) else (if what < (0 : Int32) then ((-3 : Int32), A) else (if (4 : Int32) ≤ what then ((-3 : Int32), A) else (if v < (0 : Int32) then ((-3 : Int32), A) else (if v ≤ (9 : Int32) then (A (2 + what.toNatClampNeg) x.toNatClampNeg, sU A (2 + what.toNatClampNeg) x.toNatClampNeg v) else ((-3 : Int32), A))))))))
set_option maxHeartbeats 4000000 in
set_option maxRecDepth 100000 in
theorem ck_set (l : Launch) (D : va_G) (a : Nat → Nat) (cI cII : ClassId) (N K : Nat) (A : Nat → Nat → Int32) (hN : N ≤ 30) (hKK : K ≤ 10) (Z : Nat → Prop) (x what v : Int32) : Met l y_C_set (Cond.code y_C_set b_C_set 6 (some .int) :: BW) ({ frames := 2, cells := 0, slots := 0, locals := 42 } : Room) (PcW D Z (wC a cI cII (nI N) (nI K) A) (tC cI cII) [.ref (a 0), .int x, .int what, .int v]) (va_Qi (fun r u => r = (k_set N K A x what v).1 ∧ u = (k_set N K A x what v).2) (atW D (fun u => wC a cI cII (nI N) (nI K) u) (tC cI cII)) Z) 0 0 Z := by
  refine wStart (by decide) rfl (Nat.le_of_ble_eq_true rfl) (fun p e s m below meth c Sx hr hlk hP hK hD hS ls hl => ?_)
  obtain ⟨hx, hb, hml, hown, hts⟩ := id Sx
  have hl : lv_has ls 6 [(0, .ref (a 0)), (1, .int x), (2, .int what), (3, .int v)] := hl
  refine lv_aload_n hx hb d_C_set_0 rfl (lv_at hl 0 rfl) ?_
  refine lv_iload_n hx hb d_C_set_1 rfl (lv_at hl 1 rfl) ?_
  refine xro (As := [.int x]) (rest := []) Sx (ck_isThing l D a cI cII N K A hN hKK x) v_C_isThing ⟨rfl, rfl, Nat.le_of_ble_eq_true rfl, Nat.le_of_ble_eq_true rfl⟩ hK hP (ci := 0) (q0 := 0) rfl rfl rfl hl.1 rfl (Nat.le_of_ble_eq_true rfl) d_C_set_2 ⟨Nat.le_of_ble_eq_true rfl, Nat.le_of_ble_eq_true rfl⟩ (fun r hq => ?_)
  subst hq
  refine lv_if_ne (tgt := 11) hx hb d_C_set_5 (by decide) (fun c_5 => ?_) (fun c_5 => ?_)
  · refine lv_iload_n hx hb d_C_set_11 rfl (lv_at hl 2 rfl) ?_
    refine lv_if_eq (tgt := 20) hx hb d_C_set_12 (by decide) (fun c_12 => ?_) (fun c_12 => ?_)
    · refine lv_iconst (v := (1 : Int32)) hx hb d_C_set_20 (by decide) ?_
      refine lv_goto (tgt := 25) hx hb d_C_set_21 (by decide) ?_
      refine lv_istore (lv' := [(4, .int (1 : Int32)), (0, .ref (a 0)), (1, .int x), (2, .int what), (3, .int v)]) hx hb d_C_set_25 hl (by decide) rfl (fun ls hl => ?_)
      refine lv_iload hx hb d_C_set_27 (lv_at hl 0 rfl) ?_
      refine lv_if_eq (tgt := 44) hx hb d_C_set_29 (by decide) (fun c_29 => absurd c_29 (by decide)) (fun c_29 => ?_)
      refine lv_aload_n hx hb d_C_set_32 rfl (lv_at hl 1 rfl) ?_
      refine lv_iload_n hx hb d_C_set_33 rfl (lv_at hl 2 rfl) ?_
      refine xro (As := [.int x]) (rest := []) Sx (ck_sortOf l D a cI cII N K A hN hKK x) v_C_sortOf ⟨rfl, rfl, Nat.le_of_ble_eq_true rfl, Nat.le_of_ble_eq_true rfl⟩ hK hP (ci := 0) (q0 := 0) rfl rfl rfl hl.1 rfl (Nat.le_of_ble_eq_true rfl) d_C_set_34 ⟨Nat.le_of_ble_eq_true rfl, Nat.le_of_ble_eq_true rfl⟩ (fun r hq => ?_)
      subst hq
      refine lv_iconst (v := (1 : Int32)) hx hb d_C_set_37 (by decide) ?_
      refine lv_icmp_eq (tgt := 44) hx hb d_C_set_38 (by decide) (fun c_38 => ?_) (fun c_38 => ?_)
      · refine lv_iload_n hx hb d_C_set_44 rfl (lv_at hl 3 rfl) ?_
        refine lv_if_lt (tgt := 72) hx hb d_C_set_45 (by decide) (fun c_45 => ?_) (fun c_45 => ?_)
        · refine lv_bipush (v := (-3 : Int32)) hx hb d_C_set_72 (by decide) ?_
          exact wRet (u := A) hx hb hr rfl hlk (show (-3 : Int32) = (k_set N K A x what v).1 ∧ A = (k_set N K A x what v).2 from by rw [k_set, if_neg c_5, if_pos c_12, if_pos c_38, if_pos c_45]; exact ⟨rfl, rfl⟩) hP hK hS d_C_set_74
        · refine lv_iload_n hx hb d_C_set_48 rfl (lv_at hl 3 rfl) ?_
          refine lv_iconst (v := (4 : Int32)) hx hb d_C_set_49 (by decide) ?_
          refine lv_icmp_ge (tgt := 72) hx hb d_C_set_50 (by decide) (fun c_50 => ?_) (fun c_50 => ?_)
          · refine lv_bipush (v := (-3 : Int32)) hx hb d_C_set_72 (by decide) ?_
            exact wRet (u := A) hx hb hr rfl hlk (show (-3 : Int32) = (k_set N K A x what v).1 ∧ A = (k_set N K A x what v).2 from by rw [k_set, if_neg c_5, if_pos c_12, if_pos c_38, if_neg c_45, if_pos c_50]; exact ⟨rfl, rfl⟩) hP hK hS d_C_set_74
          · refine lv_iload_n hx hb d_C_set_53 rfl (lv_at hl 4 rfl) ?_
            refine lv_if_lt (tgt := 72) hx hb d_C_set_54 (by decide) (fun c_54 => ?_) (fun c_54 => ?_)
            · refine lv_bipush (v := (-3 : Int32)) hx hb d_C_set_72 (by decide) ?_
              exact wRet (u := A) hx hb hr rfl hlk (show (-3 : Int32) = (k_set N K A x what v).1 ∧ A = (k_set N K A x what v).2 from by rw [k_set, if_neg c_5, if_pos c_12, if_pos c_38, if_neg c_45, if_neg c_50, if_pos c_54]; exact ⟨rfl, rfl⟩) hP hK hS d_C_set_74
            · refine lv_iload_n hx hb d_C_set_57 rfl (lv_at hl 4 rfl) ?_
              refine lv_iload hx hb d_C_set_58 (lv_at hl 0 rfl) ?_
              refine lv_if_eq (tgt := 67) hx hb d_C_set_60 (by decide) (fun c_60 => absurd c_60 (by decide)) (fun c_60 => ?_)
              refine lv_iconst (v := (1 : Int32)) hx hb d_C_set_63 (by decide) ?_
              refine lv_goto (tgt := 69) hx hb d_C_set_64 (by decide) ?_
              refine lv_icmp_le (tgt := 75) hx hb d_C_set_69 (by decide) (fun c_69 => ?_) (fun c_69 => ?_)
              · refine lv_aload_n hx hb d_C_set_75 rfl (lv_at hl 1 rfl) ?_
                refine va_get (D := D) (ci := 0) (v := .ref (a 3)) (C := R_C) (T := F_C) (N := 9) hx hb hts i_C hown hK hP 0 rfl rfl 3 (by decide) (hts _ fl_C_22) (fun _ h9 => h9) rfl d_C_set_76 ?_
                refine lv_iload_n hx hb d_C_set_79 rfl (lv_at hl 3 rfl) ?_
                refine x_ald4 hx hb hK hP (in4 c_45 c_50) d_C_set_80 ?_
                refine lv_iload_n hx hb d_C_set_81 rfl (lv_at hl 2 rfl) ?_
                refine va_iald (n := 30) hx hb hK hP (4 + what.toNatClampNeg) 0 (wC_row4 (vp_lt (in4 c_45 c_50))) rfl (in_isThing hN c_5) d_C_set_82 ?_
                refine lv_istore (lv' := [(5, .int (A (2 + what.toNatClampNeg) x.toNatClampNeg)), (4, .int (1 : Int32)), (0, .ref (a 0)), (1, .int x), (2, .int what), (3, .int v)]) hx hb d_C_set_83 hl (by decide) rfl (fun ls hl => ?_)
                refine lv_aload_n hx hb d_C_set_85 rfl (lv_at hl 2 rfl) ?_
                refine va_get (D := D) (ci := 0) (v := .ref (a 3)) (C := R_C) (T := F_C) (N := 9) hx hb hts i_C hown hK hP 0 rfl rfl 3 (by decide) (hts _ fl_C_22) (fun _ h9 => h9) rfl d_C_set_86 ?_
                refine lv_iload_n hx hb d_C_set_89 rfl (lv_at hl 4 rfl) ?_
                refine x_ald4 hx hb hK hP (in4 c_45 c_50) d_C_set_90 ?_
                refine lv_iload_n hx hb d_C_set_91 rfl (lv_at hl 3 rfl) ?_
                refine lv_iload_n hx hb d_C_set_92 rfl (lv_at hl 5 rfl) ?_
                refine va_iast (n := 30) hx hb hK hP (wC_D hD) hS (4 + what.toNatClampNeg) 0 (wC_row4 (vp_lt (in4 c_45 c_50))) rfl (in_isThing hN c_5) d_C_set_93 (fun H locs hP _ hS => ?_)
                have hP : va_P D classes (wC a cI cII (nI N) (nI K) (sU A (2 + what.toNatClampNeg) x.toNatClampNeg v)) H := by have h9 := hP; rw [wC_set4 (j := what.toNatClampNeg) (vp_lt (in4 c_45 c_50))] at h9; exact h9
                refine lv_iload hx hb d_C_set_94 (lv_at hl 0 rfl) ?_
                exact wRet (u := sU A (2 + what.toNatClampNeg) x.toNatClampNeg v) hx hb hr rfl hlk (show A (2 + what.toNatClampNeg) x.toNatClampNeg = (k_set N K A x what v).1 ∧ sU A (2 + what.toNatClampNeg) x.toNatClampNeg v = (k_set N K A x what v).2 from by rw [k_set, if_neg c_5, if_pos c_12, if_pos c_38, if_neg c_45, if_neg c_50, if_neg c_54, if_pos c_69]; exact ⟨rfl, rfl⟩) hP hK hS d_C_set_96
              · refine lv_bipush (v := (-3 : Int32)) hx hb d_C_set_72 (by decide) ?_
                exact wRet (u := A) hx hb hr rfl hlk (show (-3 : Int32) = (k_set N K A x what v).1 ∧ A = (k_set N K A x what v).2 from by rw [k_set, if_neg c_5, if_pos c_12, if_pos c_38, if_neg c_45, if_neg c_50, if_neg c_54, if_neg c_69]; exact ⟨rfl, rfl⟩) hP hK hS d_C_set_74
      · refine lv_bipush (v := (-2 : Int32)) hx hb d_C_set_41 (by decide) ?_
        exact wRet (u := A) hx hb hr rfl hlk (show (-2 : Int32) = (k_set N K A x what v).1 ∧ A = (k_set N K A x what v).2 from by rw [k_set, if_neg c_5, if_pos c_12, if_neg c_38]; exact ⟨rfl, rfl⟩) hP hK hS d_C_set_43
    · refine lv_iload_n hx hb d_C_set_15 rfl (lv_at hl 2 rfl) ?_
      refine lv_iconst (v := (1 : Int32)) hx hb d_C_set_16 (by decide) ?_
      refine lv_icmp_ne (tgt := 24) hx hb d_C_set_17 (by decide) (fun c_17 => ?_) (fun c_17 => ?_)
      · refine lv_iconst (v := (0 : Int32)) hx hb d_C_set_24 (by decide) ?_
        refine lv_istore (lv' := [(4, .int (0 : Int32)), (0, .ref (a 0)), (1, .int x), (2, .int what), (3, .int v)]) hx hb d_C_set_25 hl (by decide) rfl (fun ls hl => ?_)
        refine lv_iload hx hb d_C_set_27 (lv_at hl 0 rfl) ?_
        refine lv_if_eq (tgt := 44) hx hb d_C_set_29 (by decide) (fun c_29 => ?_) (fun c_29 => absurd c_29 (by decide))
        refine lv_iload_n hx hb d_C_set_44 rfl (lv_at hl 3 rfl) ?_
        refine lv_if_lt (tgt := 72) hx hb d_C_set_45 (by decide) (fun c_45 => ?_) (fun c_45 => ?_)
        · refine lv_bipush (v := (-3 : Int32)) hx hb d_C_set_72 (by decide) ?_
          exact wRet (u := A) hx hb hr rfl hlk (show (-3 : Int32) = (k_set N K A x what v).1 ∧ A = (k_set N K A x what v).2 from by rw [k_set, if_neg c_5, if_neg c_12, if_neg c_17, if_pos c_45]; exact ⟨rfl, rfl⟩) hP hK hS d_C_set_74
        · refine lv_iload_n hx hb d_C_set_48 rfl (lv_at hl 3 rfl) ?_
          refine lv_iconst (v := (4 : Int32)) hx hb d_C_set_49 (by decide) ?_
          refine lv_icmp_ge (tgt := 72) hx hb d_C_set_50 (by decide) (fun c_50 => ?_) (fun c_50 => ?_)
          · refine lv_bipush (v := (-3 : Int32)) hx hb d_C_set_72 (by decide) ?_
            exact wRet (u := A) hx hb hr rfl hlk (show (-3 : Int32) = (k_set N K A x what v).1 ∧ A = (k_set N K A x what v).2 from by rw [k_set, if_neg c_5, if_neg c_12, if_neg c_17, if_neg c_45, if_pos c_50]; exact ⟨rfl, rfl⟩) hP hK hS d_C_set_74
          · refine lv_iload_n hx hb d_C_set_53 rfl (lv_at hl 4 rfl) ?_
            refine lv_if_lt (tgt := 72) hx hb d_C_set_54 (by decide) (fun c_54 => ?_) (fun c_54 => ?_)
            · refine lv_bipush (v := (-3 : Int32)) hx hb d_C_set_72 (by decide) ?_
              exact wRet (u := A) hx hb hr rfl hlk (show (-3 : Int32) = (k_set N K A x what v).1 ∧ A = (k_set N K A x what v).2 from by rw [k_set, if_neg c_5, if_neg c_12, if_neg c_17, if_neg c_45, if_neg c_50, if_pos c_54]; exact ⟨rfl, rfl⟩) hP hK hS d_C_set_74
            · refine lv_iload_n hx hb d_C_set_57 rfl (lv_at hl 4 rfl) ?_
              refine lv_iload hx hb d_C_set_58 (lv_at hl 0 rfl) ?_
              refine lv_if_eq (tgt := 67) hx hb d_C_set_60 (by decide) (fun c_60 => ?_) (fun c_60 => absurd c_60 (by decide))
              refine lv_bipush (v := (9 : Int32)) hx hb d_C_set_67 (by decide) ?_
              refine lv_icmp_le (tgt := 75) hx hb d_C_set_69 (by decide) (fun c_69 => ?_) (fun c_69 => ?_)
              · refine lv_aload_n hx hb d_C_set_75 rfl (lv_at hl 1 rfl) ?_
                refine va_get (D := D) (ci := 0) (v := .ref (a 3)) (C := R_C) (T := F_C) (N := 9) hx hb hts i_C hown hK hP 0 rfl rfl 3 (by decide) (hts _ fl_C_22) (fun _ h9 => h9) rfl d_C_set_76 ?_
                refine lv_iload_n hx hb d_C_set_79 rfl (lv_at hl 3 rfl) ?_
                refine x_ald4 hx hb hK hP (in4 c_45 c_50) d_C_set_80 ?_
                refine lv_iload_n hx hb d_C_set_81 rfl (lv_at hl 2 rfl) ?_
                refine va_iald (n := 30) hx hb hK hP (4 + what.toNatClampNeg) 0 (wC_row4 (vp_lt (in4 c_45 c_50))) rfl (in_isThing hN c_5) d_C_set_82 ?_
                refine lv_istore (lv' := [(5, .int (A (2 + what.toNatClampNeg) x.toNatClampNeg)), (4, .int (0 : Int32)), (0, .ref (a 0)), (1, .int x), (2, .int what), (3, .int v)]) hx hb d_C_set_83 hl (by decide) rfl (fun ls hl => ?_)
                refine lv_aload_n hx hb d_C_set_85 rfl (lv_at hl 2 rfl) ?_
                refine va_get (D := D) (ci := 0) (v := .ref (a 3)) (C := R_C) (T := F_C) (N := 9) hx hb hts i_C hown hK hP 0 rfl rfl 3 (by decide) (hts _ fl_C_22) (fun _ h9 => h9) rfl d_C_set_86 ?_
                refine lv_iload_n hx hb d_C_set_89 rfl (lv_at hl 4 rfl) ?_
                refine x_ald4 hx hb hK hP (in4 c_45 c_50) d_C_set_90 ?_
                refine lv_iload_n hx hb d_C_set_91 rfl (lv_at hl 3 rfl) ?_
                refine lv_iload_n hx hb d_C_set_92 rfl (lv_at hl 5 rfl) ?_
                refine va_iast (n := 30) hx hb hK hP (wC_D hD) hS (4 + what.toNatClampNeg) 0 (wC_row4 (vp_lt (in4 c_45 c_50))) rfl (in_isThing hN c_5) d_C_set_93 (fun H locs hP _ hS => ?_)
                have hP : va_P D classes (wC a cI cII (nI N) (nI K) (sU A (2 + what.toNatClampNeg) x.toNatClampNeg v)) H := by have h9 := hP; rw [wC_set4 (j := what.toNatClampNeg) (vp_lt (in4 c_45 c_50))] at h9; exact h9
                refine lv_iload hx hb d_C_set_94 (lv_at hl 0 rfl) ?_
                exact wRet (u := sU A (2 + what.toNatClampNeg) x.toNatClampNeg v) hx hb hr rfl hlk (show A (2 + what.toNatClampNeg) x.toNatClampNeg = (k_set N K A x what v).1 ∧ sU A (2 + what.toNatClampNeg) x.toNatClampNeg v = (k_set N K A x what v).2 from by rw [k_set, if_neg c_5, if_neg c_12, if_neg c_17, if_neg c_45, if_neg c_50, if_neg c_54, if_pos c_69]; exact ⟨rfl, rfl⟩) hP hK hS d_C_set_96
              · refine lv_bipush (v := (-3 : Int32)) hx hb d_C_set_72 (by decide) ?_
                exact wRet (u := A) hx hb hr rfl hlk (show (-3 : Int32) = (k_set N K A x what v).1 ∧ A = (k_set N K A x what v).2 from by rw [k_set, if_neg c_5, if_neg c_12, if_neg c_17, if_neg c_45, if_neg c_50, if_neg c_54, if_neg c_69]; exact ⟨rfl, rfl⟩) hP hK hS d_C_set_74
      · refine lv_iconst (v := (1 : Int32)) hx hb d_C_set_20 (by decide) ?_
        refine lv_goto (tgt := 25) hx hb d_C_set_21 (by decide) ?_
        refine lv_istore (lv' := [(4, .int (1 : Int32)), (0, .ref (a 0)), (1, .int x), (2, .int what), (3, .int v)]) hx hb d_C_set_25 hl (by decide) rfl (fun ls hl => ?_)
        refine lv_iload hx hb d_C_set_27 (lv_at hl 0 rfl) ?_
        refine lv_if_eq (tgt := 44) hx hb d_C_set_29 (by decide) (fun c_29 => absurd c_29 (by decide)) (fun c_29 => ?_)
        refine lv_aload_n hx hb d_C_set_32 rfl (lv_at hl 1 rfl) ?_
        refine lv_iload_n hx hb d_C_set_33 rfl (lv_at hl 2 rfl) ?_
        refine xro (As := [.int x]) (rest := []) Sx (ck_sortOf l D a cI cII N K A hN hKK x) v_C_sortOf ⟨rfl, rfl, Nat.le_of_ble_eq_true rfl, Nat.le_of_ble_eq_true rfl⟩ hK hP (ci := 0) (q0 := 0) rfl rfl rfl hl.1 rfl (Nat.le_of_ble_eq_true rfl) d_C_set_34 ⟨Nat.le_of_ble_eq_true rfl, Nat.le_of_ble_eq_true rfl⟩ (fun r hq => ?_)
        subst hq
        refine lv_iconst (v := (1 : Int32)) hx hb d_C_set_37 (by decide) ?_
        refine lv_icmp_eq (tgt := 44) hx hb d_C_set_38 (by decide) (fun c_38 => ?_) (fun c_38 => ?_)
        · refine lv_iload_n hx hb d_C_set_44 rfl (lv_at hl 3 rfl) ?_
          refine lv_if_lt (tgt := 72) hx hb d_C_set_45 (by decide) (fun c_45 => ?_) (fun c_45 => ?_)
          · refine lv_bipush (v := (-3 : Int32)) hx hb d_C_set_72 (by decide) ?_
            exact wRet (u := A) hx hb hr rfl hlk (show (-3 : Int32) = (k_set N K A x what v).1 ∧ A = (k_set N K A x what v).2 from by rw [k_set, if_neg c_5, if_neg c_12, if_pos c_17, if_pos c_38, if_pos c_45]; exact ⟨rfl, rfl⟩) hP hK hS d_C_set_74
          · refine lv_iload_n hx hb d_C_set_48 rfl (lv_at hl 3 rfl) ?_
            refine lv_iconst (v := (4 : Int32)) hx hb d_C_set_49 (by decide) ?_
            refine lv_icmp_ge (tgt := 72) hx hb d_C_set_50 (by decide) (fun c_50 => ?_) (fun c_50 => ?_)
            · refine lv_bipush (v := (-3 : Int32)) hx hb d_C_set_72 (by decide) ?_
              exact wRet (u := A) hx hb hr rfl hlk (show (-3 : Int32) = (k_set N K A x what v).1 ∧ A = (k_set N K A x what v).2 from by rw [k_set, if_neg c_5, if_neg c_12, if_pos c_17, if_pos c_38, if_neg c_45, if_pos c_50]; exact ⟨rfl, rfl⟩) hP hK hS d_C_set_74
            · refine lv_iload_n hx hb d_C_set_53 rfl (lv_at hl 4 rfl) ?_
              refine lv_if_lt (tgt := 72) hx hb d_C_set_54 (by decide) (fun c_54 => ?_) (fun c_54 => ?_)
              · refine lv_bipush (v := (-3 : Int32)) hx hb d_C_set_72 (by decide) ?_
                exact wRet (u := A) hx hb hr rfl hlk (show (-3 : Int32) = (k_set N K A x what v).1 ∧ A = (k_set N K A x what v).2 from by rw [k_set, if_neg c_5, if_neg c_12, if_pos c_17, if_pos c_38, if_neg c_45, if_neg c_50, if_pos c_54]; exact ⟨rfl, rfl⟩) hP hK hS d_C_set_74
              · refine lv_iload_n hx hb d_C_set_57 rfl (lv_at hl 4 rfl) ?_
                refine lv_iload hx hb d_C_set_58 (lv_at hl 0 rfl) ?_
                refine lv_if_eq (tgt := 67) hx hb d_C_set_60 (by decide) (fun c_60 => absurd c_60 (by decide)) (fun c_60 => ?_)
                refine lv_iconst (v := (1 : Int32)) hx hb d_C_set_63 (by decide) ?_
                refine lv_goto (tgt := 69) hx hb d_C_set_64 (by decide) ?_
                refine lv_icmp_le (tgt := 75) hx hb d_C_set_69 (by decide) (fun c_69 => ?_) (fun c_69 => ?_)
                · refine lv_aload_n hx hb d_C_set_75 rfl (lv_at hl 1 rfl) ?_
                  refine va_get (D := D) (ci := 0) (v := .ref (a 3)) (C := R_C) (T := F_C) (N := 9) hx hb hts i_C hown hK hP 0 rfl rfl 3 (by decide) (hts _ fl_C_22) (fun _ h9 => h9) rfl d_C_set_76 ?_
                  refine lv_iload_n hx hb d_C_set_79 rfl (lv_at hl 3 rfl) ?_
                  refine x_ald4 hx hb hK hP (in4 c_45 c_50) d_C_set_80 ?_
                  refine lv_iload_n hx hb d_C_set_81 rfl (lv_at hl 2 rfl) ?_
                  refine va_iald (n := 30) hx hb hK hP (4 + what.toNatClampNeg) 0 (wC_row4 (vp_lt (in4 c_45 c_50))) rfl (in_isThing hN c_5) d_C_set_82 ?_
                  refine lv_istore (lv' := [(5, .int (A (2 + what.toNatClampNeg) x.toNatClampNeg)), (4, .int (1 : Int32)), (0, .ref (a 0)), (1, .int x), (2, .int what), (3, .int v)]) hx hb d_C_set_83 hl (by decide) rfl (fun ls hl => ?_)
                  refine lv_aload_n hx hb d_C_set_85 rfl (lv_at hl 2 rfl) ?_
                  refine va_get (D := D) (ci := 0) (v := .ref (a 3)) (C := R_C) (T := F_C) (N := 9) hx hb hts i_C hown hK hP 0 rfl rfl 3 (by decide) (hts _ fl_C_22) (fun _ h9 => h9) rfl d_C_set_86 ?_
                  refine lv_iload_n hx hb d_C_set_89 rfl (lv_at hl 4 rfl) ?_
                  refine x_ald4 hx hb hK hP (in4 c_45 c_50) d_C_set_90 ?_
                  refine lv_iload_n hx hb d_C_set_91 rfl (lv_at hl 3 rfl) ?_
                  refine lv_iload_n hx hb d_C_set_92 rfl (lv_at hl 5 rfl) ?_
                  refine va_iast (n := 30) hx hb hK hP (wC_D hD) hS (4 + what.toNatClampNeg) 0 (wC_row4 (vp_lt (in4 c_45 c_50))) rfl (in_isThing hN c_5) d_C_set_93 (fun H locs hP _ hS => ?_)
                  have hP : va_P D classes (wC a cI cII (nI N) (nI K) (sU A (2 + what.toNatClampNeg) x.toNatClampNeg v)) H := by have h9 := hP; rw [wC_set4 (j := what.toNatClampNeg) (vp_lt (in4 c_45 c_50))] at h9; exact h9
                  refine lv_iload hx hb d_C_set_94 (lv_at hl 0 rfl) ?_
                  exact wRet (u := sU A (2 + what.toNatClampNeg) x.toNatClampNeg v) hx hb hr rfl hlk (show A (2 + what.toNatClampNeg) x.toNatClampNeg = (k_set N K A x what v).1 ∧ sU A (2 + what.toNatClampNeg) x.toNatClampNeg v = (k_set N K A x what v).2 from by rw [k_set, if_neg c_5, if_neg c_12, if_pos c_17, if_pos c_38, if_neg c_45, if_neg c_50, if_neg c_54, if_pos c_69]; exact ⟨rfl, rfl⟩) hP hK hS d_C_set_96
                · refine lv_bipush (v := (-3 : Int32)) hx hb d_C_set_72 (by decide) ?_
                  exact wRet (u := A) hx hb hr rfl hlk (show (-3 : Int32) = (k_set N K A x what v).1 ∧ A = (k_set N K A x what v).2 from by rw [k_set, if_neg c_5, if_neg c_12, if_pos c_17, if_pos c_38, if_neg c_45, if_neg c_50, if_neg c_54, if_neg c_69]; exact ⟨rfl, rfl⟩) hP hK hS d_C_set_74
        · refine lv_bipush (v := (-2 : Int32)) hx hb d_C_set_41 (by decide) ?_
          exact wRet (u := A) hx hb hr rfl hlk (show (-2 : Int32) = (k_set N K A x what v).1 ∧ A = (k_set N K A x what v).2 from by rw [k_set, if_neg c_5, if_neg c_12, if_pos c_17, if_neg c_38]; exact ⟨rfl, rfl⟩) hP hK hS d_C_set_43
  · refine lv_bipush (v := (-2 : Int32)) hx hb d_C_set_8 (by decide) ?_
    exact wRet (u := A) hx hb hr rfl hlk (show (-2 : Int32) = (k_set N K A x what v).1 ∧ A = (k_set N K A x what v).2 from by rw [k_set, if_pos c_5]; exact ⟨rfl, rfl⟩) hP hK hS d_C_set_10
