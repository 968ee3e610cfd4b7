def m_isReached (N : Nat) (K : Nat) (B : Nat → Nat → Int32) (Q : Nat → Nat → Int32) (who x : Int32) : Int32 × (Nat → Nat → Int32) := (if ((m_findWay N K B Q who x).1) = (0 : Int32) then ((0 : Int32), (m_findWay N K B Q who x).2) else (if (m_firstBarrier N K B ((m_findWay N K B Q who x).2)) = (-1 : Int32) then ((1 : Int32), (m_findWay N K B Q who x).2) else ((0 : Int32), (m_findWay N K B Q who x).2)))
set_option maxHeartbeats 4000000 in
set_option maxRecDepth 100000 in
theorem cm_isReached (l : Launch) (D : va_G) (a : Nat → Nat) (cI cZ : ClassId) (N K : Nat) (B Q : Nat → Nat → Int32) (hN : N ≤ 30) (hKK : K ≤ 10) (hC : chs N B) (hDr : drM N K B) (Z : Nat → Prop) (who x : Int32) (hw : ∃ j : Nat, j < N ∧ who = nI j) (h_x : ∃ j : Nat, j < N ∧ x = nI j) : Met l y_M_isReached (Cond.code y_M_isReached b_M_isReached 3 (some .boolean) :: BW) ({ frames := 2, cells := 0, slots := 0, locals := 47 } : Room) (PcW D Z (wM a cI cZ (nI N) (nI K) B Q) (tM cI cZ) [.ref (a 0), .int who, .int x]) (va_Qi (fun r u => r = (m_isReached N K B Q who x).1 ∧ u = (m_isReached N K B Q who x).2) (atW D (fun u => wM a cI cZ (nI N) (nI K) B u) (tM cI cZ)) Z) 0 0 Z := by
  refine wStart (by decide) rfl (Nat.le_of_ble_eq_true rfl) (fun p e s m below meth c Sx hr hlk hP hK hD hS ls hl => ?_)
  obtain ⟨hx, hb, hml, hown, hts⟩ := id Sx
  have hl : lv_has ls 3 [(0, .ref (a 0)), (1, .int who), (2, .int x)] := hl
  refine lv_aload_n hx hb d_M_isReached_0 rfl (lv_at hl 0 rfl) ?_
  refine lv_iload_n hx hb d_M_isReached_1 rfl (lv_at hl 1 rfl) ?_
  refine lv_iload_n hx hb d_M_isReached_2 rfl (lv_at hl 2 rfl) ?_
  refine xwi (As := [.int who, .int x]) (rest := []) Sx (cm_findWay l D a cI cZ N K B Q hN hKK hC hDr Z who x (hw) (h_x)) v_M_findWay ⟨rfl, rfl, Nat.le_of_ble_eq_true rfl, Nat.le_of_ble_eq_true rfl⟩ hK hP (ci := 1) (q0 := 0) rfl rfl (wM_D hD) hS (fun _ h => h) rfl hl.1 rfl (Nat.le_of_ble_eq_true rfl) d_M_isReached_3 ⟨Nat.le_of_ble_eq_true rfl, Nat.le_of_ble_eq_true rfl⟩ (fun r u H locs hu hP hS => ?_)
  obtain ⟨rfl, rfl⟩ := hu
  have hP : va_P D classes (wM a cI cZ (nI N) (nI K) B ((m_findWay N K B Q who x).2)) H := hP
  refine lv_if_eq (tgt := 21) hx hb d_M_isReached_6 (by decide) (fun c_6 => ?_) (fun c_6 => ?_)
  · refine lv_iconst (v := (0 : Int32)) hx hb d_M_isReached_21 (by decide) ?_
    exact wRet (u := (m_findWay N K B Q who x).2) hx hb hr (by first | rfl | decide) hlk (show (0 : Int32) = (m_isReached N K B Q who x).1 ∧ (m_findWay N K B Q who x).2 = (m_isReached N K B Q who x).2 from by rw [m_isReached, if_pos c_6]; exact ⟨rfl, rfl⟩) hP hK hS d_M_isReached_22
  · refine lv_aload_n hx hb d_M_isReached_9 rfl (lv_at hl 0 rfl) ?_
    refine xro (As := []) (rest := []) Sx (cm_firstBarrier l D a cI cZ N K B ((m_findWay N K B Q who x).2) hN hKK hC hDr ((findWay_ok (K := K) (Q := Q) hN hC hw h_x).1) ((findWay_ok (K := K) (Q := Q) hN hC hw h_x).2.1) ((findWay_ok (K := K) (Q := Q) hN hC hw h_x).2.2.1) ((findWay_ok (K := K) (Q := Q) hN hC hw h_x).2.2.2.1) ((findWay_ok (K := K) (Q := Q) hN hC hw h_x).2.2.2.2.1) ((findWay_ok (K := K) (Q := Q) hN hC hw h_x).2.2.2.2.2)) v_M_firstBarrier ⟨rfl, rfl, Nat.le_of_ble_eq_true rfl, Nat.le_of_ble_eq_true rfl⟩ hK hP (ci := 1) (q0 := 0) rfl rfl rfl hl.1 rfl (Nat.le_of_ble_eq_true rfl) d_M_isReached_10 ⟨Nat.le_of_ble_eq_true rfl, Nat.le_of_ble_eq_true rfl⟩ (fun r hq => ?_)
    subst hq
    refine lv_iconst (v := (-1 : Int32)) hx hb d_M_isReached_13 (by decide) ?_
    refine lv_icmp_ne (tgt := 21) hx hb d_M_isReached_14 (by decide) (fun c_14 => ?_) (fun c_14 => ?_)
    · refine lv_iconst (v := (0 : Int32)) hx hb d_M_isReached_21 (by decide) ?_
      exact wRet (u := (m_findWay N K B Q who x).2) hx hb hr (by first | rfl | decide) hlk (show (0 : Int32) = (m_isReached N K B Q who x).1 ∧ (m_findWay N K B Q who x).2 = (m_isReached N K B Q who x).2 from by rw [m_isReached, if_neg c_6, if_neg c_14]; exact ⟨rfl, rfl⟩) hP hK hS d_M_isReached_22
    · refine lv_iconst (v := (1 : Int32)) hx hb d_M_isReached_17 (by decide) ?_
      refine lv_goto (tgt := 22) hx hb d_M_isReached_18 (by decide) ?_
      exact wRet (u := (m_findWay N K B Q who x).2) hx hb hr (by first | rfl | decide) hlk (show (1 : Int32) = (m_isReached N K B Q who x).1 ∧ (m_findWay N K B Q who x).2 = (m_isReached N K B Q who x).2 from by rw [m_isReached, if_neg c_6, if_pos c_14]; exact ⟨rfl, rfl⟩) hP hK hS d_M_isReached_22
theorem isReached_2 {N K : Nat} {B Q : Nat → Nat → Int32} {who x : Int32} : (m_isReached N K B Q who x).2 = (m_findWay N K B Q who x).2 := by
  rw [m_isReached]
  by_cases c1 : (m_findWay N K B Q who x).1 = (0 : Int32)
  · rw [if_pos c1]
  · rw [if_neg c1]
    by_cases c2 : m_firstBarrier N K B (m_findWay N K B Q who x).2 = (-1 : Int32)
    · rw [if_pos c2]
    · rw [if_neg c2]
theorem isReached_01 {N K : Nat} {B Q : Nat → Nat → Int32} {who x : Int32} (h : q01 Q) : q01 (m_isReached N K B Q who x).2 := by
  intro k hk
  rw [isReached_2, findWay_row (by decide) (by decide) (by decide)]
  exact h k hk

def m_take (N : Nat) (K : Nat) (B : Nat → Nat → Int32) (Q : Nat → Nat → Int32) (who x : Int32) : Int32 × (Nat → Nat → Int32) × (Nat → Nat → Int32) := (if (m_isOf N K B Q who (3 : Int32)) = (0 : Int32) then ((-2 : Int32), (B, Q)) else (if (m_isThing N K B Q x) = (0 : Int32) then ((-2 : Int32), (B, Q)) else (if (B 0 x.toNatClampNeg) = (0 : Int32) then ((-2 : Int32), (B, Q)) else (if (B 0 x.toNatClampNeg) = (3 : Int32) then ((-2 : Int32), (B, Q)) else (if (B 1 x.toNatClampNeg) = who then ((0 : Int32), (B, Q)) else (if (m_isWithin N K B Q who x) = (0 : Int32) then (if ((m_findWay N K B Q who x).1) = (0 : Int32) then ((-5 : Int32), (B, (m_findWay N K B Q who x).2)) else (if (m_firstBarrier N K B ((m_findWay N K B Q who x).2)) = (-1 : Int32) then (if (m_hasRoom N K B ((m_findWay N K B Q who x).2) who) = (0 : Int32) then ((-7 : Int32), (B, (m_findWay N K B Q who x).2)) else ((1 : Int32), (sU B 1 x.toNatClampNeg who, (m_findWay N K B Q who x).2))) else ((-6 : Int32), (B, (m_findWay N K B Q who x).2)))) else ((-4 : Int32), (B, Q))))))))
set_option maxHeartbeats 4000000 in
set_option maxRecDepth 100000 in
theorem cm_take (l : Launch) (D : va_G) (a : Nat → Nat) (cI cZ : ClassId) (N K : Nat) (B Q : Nat → Nat → Int32) (hN : N ≤ 30) (hKK : K ≤ 10) (hC : chs N B) (hDr : drM N K B) (Z : Nat → Prop) (who x : Int32) : Met l y_M_take (Cond.code y_M_take b_M_take 3 (some .int) :: BW) ({ frames := 3, cells := 0, slots := 0, locals := 65 } : Room) (PcW D Z (wM a cI cZ (nI N) (nI K) B Q) (tM cI cZ) [.ref (a 0), .int who, .int x]) (va_Qi (fun r u => r = (m_take N K B Q who x).1 ∧ u = (m_take N K B Q who x).2) (atW D (fun u => wM a cI cZ (nI N) (nI K) u.1 u.2) (tM cI cZ)) Z) 0 0 Z := by
  refine wStart (by decide) rfl (Nat.le_of_ble_eq_true rfl) (fun p e s m below meth c Sx hr hlk hP hK hD hS ls hl => ?_)
  obtain ⟨hx, hb, hml, hown, hts⟩ := id Sx
  have hl : lv_has ls 3 [(0, .ref (a 0)), (1, .int who), (2, .int x)] := hl
  refine lv_aload_n hx hb d_M_take_0 rfl (lv_at hl 0 rfl) ?_
  refine lv_iload_n hx hb d_M_take_1 rfl (lv_at hl 1 rfl) ?_
  refine lv_iconst (v := (3 : Int32)) hx hb d_M_take_2 (by decide) ?_
  refine xro (As := [.int who, .int (3 : Int32)]) (rest := []) Sx (cm_isOf l D a cI cZ N K B Q hN hKK hC hDr who (3 : Int32)) v_M_isOf ⟨rfl, rfl, Nat.le_of_ble_eq_true rfl, Nat.le_of_ble_eq_true rfl⟩ hK hP (ci := 1) (q0 := 0) rfl rfl rfl hl.1 rfl (Nat.le_of_ble_eq_true rfl) d_M_take_3 ⟨Nat.le_of_ble_eq_true rfl, Nat.le_of_ble_eq_true rfl⟩ (fun r hq => ?_)
  subst hq
  refine lv_if_eq (tgt := 36) hx hb d_M_take_6 (by decide) (fun c_6 => ?_) (fun c_6 => ?_)
  · refine lv_bipush (v := (-2 : Int32)) hx hb d_M_take_36 (by decide) ?_
    exact wRet (u := (B, Q)) hx hb hr rfl hlk (show (-2 : Int32) = (m_take N K B Q who x).1 ∧ (B, Q) = (m_take N K B Q who x).2 from by rw [m_take, if_pos c_6]; exact ⟨rfl, rfl⟩) hP hK hS d_M_take_38
  · refine lv_aload_n hx hb d_M_take_9 rfl (lv_at hl 0 rfl) ?_
    refine lv_iload_n hx hb d_M_take_10 rfl (lv_at hl 2 rfl) ?_
    refine xro (As := [.int x]) (rest := []) Sx (cm_isThing l D a cI cZ N K B Q hN hKK hC hDr x) v_M_isThing ⟨rfl, rfl, Nat.le_of_ble_eq_true rfl, Nat.le_of_ble_eq_true rfl⟩ hK hP (ci := 1) (q0 := 0) rfl rfl rfl hl.1 rfl (Nat.le_of_ble_eq_true rfl) d_M_take_11 ⟨Nat.le_of_ble_eq_true rfl, Nat.le_of_ble_eq_true rfl⟩ (fun r hq => ?_)
    subst hq
    refine lv_if_eq (tgt := 36) hx hb d_M_take_14 (by decide) (fun c_14 => ?_) (fun c_14 => ?_)
    · refine lv_bipush (v := (-2 : Int32)) hx hb d_M_take_36 (by decide) ?_
      exact wRet (u := (B, Q)) hx hb hr rfl hlk (show (-2 : Int32) = (m_take N K B Q who x).1 ∧ (B, Q) = (m_take N K B Q who x).2 from by rw [m_take, if_neg c_6, if_pos c_14]; exact ⟨rfl, rfl⟩) hP hK hS d_M_take_38
    · refine lv_aload_n hx hb d_M_take_17 rfl (lv_at hl 0 rfl) ?_
      refine va_get (D := D) (ci := 1) (v := .ref (a 1)) (C := R_M) (T := F_M) (N := 16) hx hb hts i_M hown hK hP 0 rfl rfl 1 (by decide) (hts _ fl_M_7) (fun _ h9 => h9) rfl d_M_take_18 ?_
      refine lv_iload_n hx hb d_M_take_21 rfl (lv_at hl 2 rfl) ?_
      refine va_iald (n := 30) hx hb hK hP 1 0 rfl rfl (th_in hN (isThingM_j hN c_14)) d_M_take_22 ?_
      refine lv_if_eq (tgt := 36) hx hb d_M_take_23 (by decide) (fun c_23 => ?_) (fun c_23 => ?_)
      · refine lv_bipush (v := (-2 : Int32)) hx hb d_M_take_36 (by decide) ?_
        exact wRet (u := (B, Q)) hx hb hr rfl hlk (show (-2 : Int32) = (m_take N K B Q who x).1 ∧ (B, Q) = (m_take N K B Q who x).2 from by rw [m_take, if_neg c_6, if_neg c_14, if_pos c_23]; exact ⟨rfl, rfl⟩) hP hK hS d_M_take_38
      · refine lv_aload_n hx hb d_M_take_26 rfl (lv_at hl 0 rfl) ?_
        refine va_get (D := D) (ci := 1) (v := .ref (a 1)) (C := R_M) (T := F_M) (N := 16) hx hb hts i_M hown hK hP 0 rfl rfl 1 (by decide) (hts _ fl_M_7) (fun _ h9 => h9) rfl d_M_take_27 ?_
        refine lv_iload_n hx hb d_M_take_30 rfl (lv_at hl 2 rfl) ?_
        refine va_iald (n := 30) hx hb hK hP 1 0 rfl rfl (th_in hN (isThingM_j hN c_14)) d_M_take_31 ?_
        refine lv_iconst (v := (3 : Int32)) hx hb d_M_take_32 (by decide) ?_
        refine lv_icmp_ne (tgt := 39) hx hb d_M_take_33 (by decide) (fun c_33 => ?_) (fun c_33 => ?_)
        · refine lv_aload_n hx hb d_M_take_39 rfl (lv_at hl 0 rfl) ?_
          refine va_get (D := D) (ci := 1) (v := .ref (a 2)) (C := R_M) (T := F_M) (N := 16) hx hb hts i_M hown hK hP 0 rfl rfl 2 (by decide) (hts _ fl_M_13) (fun _ h9 => h9) rfl d_M_take_40 ?_
          refine lv_iload_n hx hb d_M_take_43 rfl (lv_at hl 2 rfl) ?_
          refine va_iald (n := 30) hx hb hK hP 2 0 rfl rfl (th_in hN (isThingM_j hN c_14)) d_M_take_44 ?_
          refine lv_iload_n hx hb d_M_take_45 rfl (lv_at hl 1 rfl) ?_
          refine lv_icmp_ne (tgt := 51) hx hb d_M_take_46 (by decide) (fun c_46 => ?_) (fun c_46 => ?_)
          · refine lv_aload_n hx hb d_M_take_51 rfl (lv_at hl 0 rfl) ?_
            refine lv_iload_n hx hb d_M_take_52 rfl (lv_at hl 1 rfl) ?_
            refine lv_iload_n hx hb d_M_take_53 rfl (lv_at hl 2 rfl) ?_
            refine xro (As := [.int who, .int x]) (rest := []) Sx (cm_isWithin l D a cI cZ N K B Q hN hKK hC hDr who x (isOfM_j hN c_6)) v_M_isWithin ⟨rfl, rfl, Nat.le_of_ble_eq_true rfl, Nat.le_of_ble_eq_true rfl⟩ hK hP (ci := 1) (q0 := 0) rfl rfl rfl hl.1 rfl (Nat.le_of_ble_eq_true rfl) d_M_take_54 ⟨Nat.le_of_ble_eq_true rfl, Nat.le_of_ble_eq_true rfl⟩ (fun r hq => ?_)
            subst hq
            refine lv_if_eq (tgt := 63) hx hb d_M_take_57 (by decide) (fun c_57 => ?_) (fun c_57 => ?_)
            · refine lv_aload_n hx hb d_M_take_63 rfl (lv_at hl 0 rfl) ?_
              refine lv_iload_n hx hb d_M_take_64 rfl (lv_at hl 1 rfl) ?_
              refine lv_iload_n hx hb d_M_take_65 rfl (lv_at hl 2 rfl) ?_
              refine xwi (As := [.int who, .int x]) (rest := []) Sx (cm_findWay l D a cI cZ N K B Q hN hKK hC hDr Z who x (isOfM_j hN c_6) (isThingM_j hN c_14)) v_M_findWay ⟨rfl, rfl, Nat.le_of_ble_eq_true rfl, Nat.le_of_ble_eq_true rfl⟩ hK hP (ci := 1) (q0 := 0) rfl rfl (wM_D hD) hS (fun _ h => h) rfl hl.1 rfl (Nat.le_of_ble_eq_true rfl) d_M_take_66 ⟨Nat.le_of_ble_eq_true rfl, Nat.le_of_ble_eq_true rfl⟩ (fun r u H locs hu hP hS => ?_)
              obtain ⟨rfl, rfl⟩ := hu
              have hP : va_P D classes (wM a cI cZ (nI N) (nI K) B ((m_findWay N K B Q who x).2)) H := hP
              refine lv_if_ne (tgt := 75) hx hb d_M_take_69 (by decide) (fun c_69 => ?_) (fun c_69 => ?_)
              · refine lv_aload_n hx hb d_M_take_75 rfl (lv_at hl 0 rfl) ?_
                refine xro (As := []) (rest := []) Sx (cm_firstBarrier l D a cI cZ N K B ((m_findWay N K B Q who x).2) hN hKK hC hDr ((findWay_ok (K := K) (Q := Q) hN hC (isOfM_j hN c_6) (isThingM_j hN c_14)).1) ((findWay_ok (K := K) (Q := Q) hN hC (isOfM_j hN c_6) (isThingM_j hN c_14)).2.1) ((findWay_ok (K := K) (Q := Q) hN hC (isOfM_j hN c_6) (isThingM_j hN c_14)).2.2.1) ((findWay_ok (K := K) (Q := Q) hN hC (isOfM_j hN c_6) (isThingM_j hN c_14)).2.2.2.1) ((findWay_ok (K := K) (Q := Q) hN hC (isOfM_j hN c_6) (isThingM_j hN c_14)).2.2.2.2.1) ((findWay_ok (K := K) (Q := Q) hN hC (isOfM_j hN c_6) (isThingM_j hN c_14)).2.2.2.2.2)) v_M_firstBarrier ⟨rfl, rfl, Nat.le_of_ble_eq_true rfl, Nat.le_of_ble_eq_true rfl⟩ hK hP (ci := 1) (q0 := 0) rfl rfl rfl hl.1 rfl (Nat.le_of_ble_eq_true rfl) d_M_take_76 ⟨Nat.le_of_ble_eq_true rfl, Nat.le_of_ble_eq_true rfl⟩ (fun r hq => ?_)
                subst hq
                refine lv_iconst (v := (-1 : Int32)) hx hb d_M_take_79 (by decide) ?_
                refine lv_icmp_eq (tgt := 86) hx hb d_M_take_80 (by decide) (fun c_80 => ?_) (fun c_80 => ?_)
                · refine lv_aload_n hx hb d_M_take_86 rfl (lv_at hl 0 rfl) ?_
                  refine lv_iload_n hx hb d_M_take_87 rfl (lv_at hl 1 rfl) ?_
                  refine xro (As := [.int who]) (rest := []) Sx (cm_hasRoom l D a cI cZ N K B ((m_findWay N K B Q who x).2) hN hKK hC hDr who (isOfM_j hN c_6)) v_M_hasRoom ⟨rfl, rfl, Nat.le_of_ble_eq_true rfl, Nat.le_of_ble_eq_true rfl⟩ hK hP (ci := 1) (q0 := 0) rfl rfl rfl hl.1 rfl (Nat.le_of_ble_eq_true rfl) d_M_take_88 ⟨Nat.le_of_ble_eq_true rfl, Nat.le_of_ble_eq_true rfl⟩ (fun r hq => ?_)
                  subst hq
                  refine lv_if_ne (tgt := 97) hx hb d_M_take_91 (by decide) (fun c_91 => ?_) (fun c_91 => ?_)
                  · refine lv_aload_n hx hb d_M_take_97 rfl (lv_at hl 0 rfl) ?_
                    refine va_get (D := D) (ci := 1) (v := .ref (a 2)) (C := R_M) (T := F_M) (N := 16) hx hb hts i_M hown hK hP 0 rfl rfl 2 (by decide) (hts _ fl_M_13) (fun _ h9 => h9) rfl d_M_take_98 ?_
                    refine lv_iload_n hx hb d_M_take_101 rfl (lv_at hl 2 rfl) ?_
                    refine lv_iload_n hx hb d_M_take_102 rfl (lv_at hl 1 rfl) ?_
                    refine va_iast (n := 30) hx hb hK hP (wM_D hD) hS 2 0 rfl rfl (th_in hN (isThingM_j hN c_14)) d_M_take_103 (fun H locs hP _ hS => ?_)
                    have hP : va_P D classes (wM a cI cZ (nI N) (nI K) (sU B 1 x.toNatClampNeg who) ((m_findWay N K B Q who x).2)) H := by have h9 := hP; rw [wM_s2] at h9; exact h9
                    refine lv_iconst (v := (1 : Int32)) hx hb d_M_take_104 (by decide) ?_
                    exact wRet (u := (sU B 1 x.toNatClampNeg who, (m_findWay N K B Q who x).2)) hx hb hr rfl hlk (show (1 : Int32) = (m_take N K B Q who x).1 ∧ (sU B 1 x.toNatClampNeg who, (m_findWay N K B Q who x).2) = (m_take N K B Q who x).2 from by rw [m_take, if_neg c_6, if_neg c_14, if_neg c_23, if_neg c_33, if_neg c_46, if_pos c_57, if_neg c_69, if_pos c_80, if_neg c_91]; exact ⟨rfl, rfl⟩) hP hK hS d_M_take_105
                  · refine lv_bipush (v := (-7 : Int32)) hx hb d_M_take_94 (by decide) ?_
                    exact wRet (u := (B, (m_findWay N K B Q who x).2)) hx hb hr rfl hlk (show (-7 : Int32) = (m_take N K B Q who x).1 ∧ (B, (m_findWay N K B Q who x).2) = (m_take N K B Q who x).2 from by rw [m_take, if_neg c_6, if_neg c_14, if_neg c_23, if_neg c_33, if_neg c_46, if_pos c_57, if_neg c_69, if_pos c_80, if_pos c_91]; exact ⟨rfl, rfl⟩) hP hK hS d_M_take_96
                · refine lv_bipush (v := (-6 : Int32)) hx hb d_M_take_83 (by decide) ?_
                  exact wRet (u := (B, (m_findWay N K B Q who x).2)) hx hb hr rfl hlk (show (-6 : Int32) = (m_take N K B Q who x).1 ∧ (B, (m_findWay N K B Q who x).2) = (m_take N K B Q who x).2 from by rw [m_take, if_neg c_6, if_neg c_14, if_neg c_23, if_neg c_33, if_neg c_46, if_pos c_57, if_neg c_69, if_neg c_80]; exact ⟨rfl, rfl⟩) hP hK hS d_M_take_85
              · refine lv_bipush (v := (-5 : Int32)) hx hb d_M_take_72 (by decide) ?_
                exact wRet (u := (B, (m_findWay N K B Q who x).2)) hx hb hr rfl hlk (show (-5 : Int32) = (m_take N K B Q who x).1 ∧ (B, (m_findWay N K B Q who x).2) = (m_take N K B Q who x).2 from by rw [m_take, if_neg c_6, if_neg c_14, if_neg c_23, if_neg c_33, if_neg c_46, if_pos c_57, if_pos c_69]; exact ⟨rfl, rfl⟩) hP hK hS d_M_take_74
            · refine lv_bipush (v := (-4 : Int32)) hx hb d_M_take_60 (by decide) ?_
              exact wRet (u := (B, Q)) hx hb hr rfl hlk (show (-4 : Int32) = (m_take N K B Q who x).1 ∧ (B, Q) = (m_take N K B Q who x).2 from by rw [m_take, if_neg c_6, if_neg c_14, if_neg c_23, if_neg c_33, if_neg c_46, if_neg c_57]; exact ⟨rfl, rfl⟩) hP hK hS d_M_take_62
          · refine lv_iconst (v := (0 : Int32)) hx hb d_M_take_49 (by decide) ?_
            exact wRet (u := (B, Q)) hx hb hr rfl hlk (show (0 : Int32) = (m_take N K B Q who x).1 ∧ (B, Q) = (m_take N K B Q who x).2 from by rw [m_take, if_neg c_6, if_neg c_14, if_neg c_23, if_neg c_33, if_pos c_46]; exact ⟨rfl, rfl⟩) hP hK hS d_M_take_50
        · refine lv_bipush (v := (-2 : Int32)) hx hb d_M_take_36 (by decide) ?_
          exact wRet (u := (B, Q)) hx hb hr rfl hlk (show (-2 : Int32) = (m_take N K B Q who x).1 ∧ (B, Q) = (m_take N K B Q who x).2 from by rw [m_take, if_neg c_6, if_neg c_14, if_neg c_23, if_pos c_33]; exact ⟨rfl, rfl⟩) hP hK hS d_M_take_38

def m_give (N : Nat) (K : Nat) (B : Nat → Nat → Int32) (Q : Nat → Nat → Int32) (who x t : Int32) : Int32 × (Nat → Nat → Int32) × (Nat → Nat → Int32) := (if (m_isOf N K B Q who (3 : Int32)) = (0 : Int32) then ((-2 : Int32), (B, Q)) else (if (m_isThing N K B Q x) = (0 : Int32) then ((-2 : Int32), (B, Q)) else (if (m_isThing N K B Q t) = (0 : Int32) then ((-2 : Int32), (B, Q)) else (if (B 1 x.toNatClampNeg) = who then (if (m_in (B 0 t.toNatClampNeg) (1 : Int32) (3 : Int32)) = (0 : Int32) then ((-2 : Int32), (B, Q)) else (if t = who then ((-2 : Int32), (B, Q)) else (if t = x then ((-4 : Int32), (B, Q)) else (if (m_isWithin N K B Q t x) = (0 : Int32) then (if ((m_findWay N K B Q who t).1) = (0 : Int32) then ((-5 : Int32), (B, (m_findWay N K B Q who t).2)) else (if (m_firstBarrier N K B ((m_findWay N K B Q who t).2)) = (-1 : Int32) then (if (m_isShut N K B ((m_findWay N K B Q who t).2) t) = (0 : Int32) then (if (m_hasRoom N K B ((m_findWay N K B Q who t).2) t) = (0 : Int32) then ((-7 : Int32), (B, (m_findWay N K B Q who t).2)) else ((1 : Int32), (sU B 1 x.toNatClampNeg t, (m_findWay N K B Q who t).2))) else ((-6 : Int32), (B, (m_findWay N K B Q who t).2))) else ((-6 : Int32), (B, (m_findWay N K B Q who t).2)))) else ((-4 : Int32), (B, Q)))))) else ((-2 : Int32), (B, Q))))))
set_option maxHeartbeats 4000000 in
set_option maxRecDepth 100000 in
theorem cm_give (l : Launch) (D : va_G) (a : Nat → Nat) (cI cZ : ClassId) (N K : Nat) (B Q : Nat → Nat → Int32) (hN : N ≤ 30) (hKK : K ≤ 10) (hC : chs N B) (hDr : drM N K B) (Z : Nat → Prop) (who x t : Int32) : Met l y_M_give (Cond.code y_M_give b_M_give 5 (some .int) :: BW) ({ frames := 3, cells := 0, slots := 0, locals := 65 } : Room) (PcW D Z (wM a cI cZ (nI N) (nI K) B Q) (tM cI cZ) [.ref (a 0), .int who, .int x, .int t]) (va_Qi (fun r u => r = (m_give N K B Q who x t).1 ∧ u = (m_give N K B Q who x t).2) (atW D (fun u => wM a cI cZ (nI N) (nI K) u.1 u.2) (tM cI cZ)) Z) 0 0 Z := by
  refine wStart (by decide) rfl (Nat.le_of_ble_eq_true rfl) (fun p e s m below meth c Sx hr hlk hP hK hD hS ls hl => ?_)
  obtain ⟨hx, hb, hml, hown, hts⟩ := id Sx
  have hl : lv_has ls 5 [(0, .ref (a 0)), (1, .int who), (2, .int x), (3, .int t)] := hl
  refine lv_aload_n hx hb d_M_give_0 rfl (lv_at hl 0 rfl) ?_
  refine lv_iload_n hx hb d_M_give_1 rfl (lv_at hl 1 rfl) ?_
  refine lv_iconst (v := (3 : Int32)) hx hb d_M_give_2 (by decide) ?_
  refine xro (As := [.int who, .int (3 : Int32)]) (rest := []) Sx (cm_isOf l D a cI cZ N K B Q hN hKK hC hDr who (3 : Int32)) v_M_isOf ⟨rfl, rfl, Nat.le_of_ble_eq_true rfl, Nat.le_of_ble_eq_true rfl⟩ hK hP (ci := 1) (q0 := 0) rfl rfl rfl hl.1 rfl (Nat.le_of_ble_eq_true rfl) d_M_give_3 ⟨Nat.le_of_ble_eq_true rfl, Nat.le_of_ble_eq_true rfl⟩ (fun r hq => ?_)
  subst hq
  refine lv_if_eq (tgt := 29) hx hb d_M_give_6 (by decide) (fun c_6 => ?_) (fun c_6 => ?_)
  · refine lv_iconst (v := (0 : Int32)) hx hb d_M_give_29 (by decide) ?_
    refine lv_istore (lv' := [(4, .int (0 : Int32)), (0, .ref (a 0)), (1, .int who), (2, .int x), (3, .int t)]) hx hb d_M_give_30 hl (by decide) rfl (fun ls hl => ?_)
    refine lv_iload hx hb d_M_give_32 (lv_at hl 0 rfl) ?_
    refine lv_if_eq (tgt := 66) hx hb d_M_give_34 (by decide) (fun c_34 => ?_) (fun c_34 => absurd c_34 (by decide))
    refine lv_bipush (v := (-2 : Int32)) hx hb d_M_give_66 (by decide) ?_
    exact wRet (u := (B, Q)) hx hb hr rfl hlk (show (-2 : Int32) = (m_give N K B Q who x t).1 ∧ (B, Q) = (m_give N K B Q who x t).2 from by rw [m_give, if_pos c_6]; exact ⟨rfl, rfl⟩) hP hK hS d_M_give_68
  · refine lv_aload_n hx hb d_M_give_9 rfl (lv_at hl 0 rfl) ?_
    refine lv_iload_n hx hb d_M_give_10 rfl (lv_at hl 2 rfl) ?_
    refine xro (As := [.int x]) (rest := []) Sx (cm_isThing l D a cI cZ N K B Q hN hKK hC hDr x) v_M_isThing ⟨rfl, rfl, Nat.le_of_ble_eq_true rfl, Nat.le_of_ble_eq_true rfl⟩ hK hP (ci := 1) (q0 := 0) rfl rfl rfl hl.1 rfl (Nat.le_of_ble_eq_true rfl) d_M_give_11 ⟨Nat.le_of_ble_eq_true rfl, Nat.le_of_ble_eq_true rfl⟩ (fun r hq => ?_)
    subst hq
    refine lv_if_eq (tgt := 29) hx hb d_M_give_14 (by decide) (fun c_14 => ?_) (fun c_14 => ?_)
    · refine lv_iconst (v := (0 : Int32)) hx hb d_M_give_29 (by decide) ?_
      refine lv_istore (lv' := [(4, .int (0 : Int32)), (0, .ref (a 0)), (1, .int who), (2, .int x), (3, .int t)]) hx hb d_M_give_30 hl (by decide) rfl (fun ls hl => ?_)
      refine lv_iload hx hb d_M_give_32 (lv_at hl 0 rfl) ?_
      refine lv_if_eq (tgt := 66) hx hb d_M_give_34 (by decide) (fun c_34 => ?_) (fun c_34 => absurd c_34 (by decide))
      refine lv_bipush (v := (-2 : Int32)) hx hb d_M_give_66 (by decide) ?_
      exact wRet (u := (B, Q)) hx hb hr rfl hlk (show (-2 : Int32) = (m_give N K B Q who x t).1 ∧ (B, Q) = (m_give N K B Q who x t).2 from by rw [m_give, if_neg c_6, if_pos c_14]; exact ⟨rfl, rfl⟩) hP hK hS d_M_give_68
    · refine lv_aload_n hx hb d_M_give_17 rfl (lv_at hl 0 rfl) ?_
      refine lv_iload_n hx hb d_M_give_18 rfl (lv_at hl 3 rfl) ?_
      refine xro (As := [.int t]) (rest := []) Sx (cm_isThing l D a cI cZ N K B Q hN hKK hC hDr t) v_M_isThing ⟨rfl, rfl, Nat.le_of_ble_eq_true rfl, Nat.le_of_ble_eq_true rfl⟩ hK hP (ci := 1) (q0 := 0) rfl rfl rfl hl.1 rfl (Nat.le_of_ble_eq_true rfl) d_M_give_19 ⟨Nat.le_of_ble_eq_true rfl, Nat.le_of_ble_eq_true rfl⟩ (fun r hq => ?_)
      subst hq
      refine lv_if_eq (tgt := 29) hx hb d_M_give_22 (by decide) (fun c_22 => ?_) (fun c_22 => ?_)
      · refine lv_iconst (v := (0 : Int32)) hx hb d_M_give_29 (by decide) ?_
        refine lv_istore (lv' := [(4, .int (0 : Int32)), (0, .ref (a 0)), (1, .int who), (2, .int x), (3, .int t)]) hx hb d_M_give_30 hl (by decide) rfl (fun ls hl => ?_)
        refine lv_iload hx hb d_M_give_32 (lv_at hl 0 rfl) ?_
        refine lv_if_eq (tgt := 66) hx hb d_M_give_34 (by decide) (fun c_34 => ?_) (fun c_34 => absurd c_34 (by decide))
        refine lv_bipush (v := (-2 : Int32)) hx hb d_M_give_66 (by decide) ?_
        exact wRet (u := (B, Q)) hx hb hr rfl hlk (show (-2 : Int32) = (m_give N K B Q who x t).1 ∧ (B, Q) = (m_give N K B Q who x t).2 from by rw [m_give, if_neg c_6, if_neg c_14, if_pos c_22]; exact ⟨rfl, rfl⟩) hP hK hS d_M_give_68
      · refine lv_iconst (v := (1 : Int32)) hx hb d_M_give_25 (by decide) ?_
        refine lv_goto (tgt := 30) hx hb d_M_give_26 (by decide) ?_
        refine lv_istore (lv' := [(4, .int (1 : Int32)), (0, .ref (a 0)), (1, .int who), (2, .int x), (3, .int t)]) hx hb d_M_give_30 hl (by decide) rfl (fun ls hl => ?_)
        refine lv_iload hx hb d_M_give_32 (lv_at hl 0 rfl) ?_
        refine lv_if_eq (tgt := 66) hx hb d_M_give_34 (by decide) (fun c_34 => absurd c_34 (by decide)) (fun c_34 => ?_)
        refine lv_aload_n hx hb d_M_give_37 rfl (lv_at hl 1 rfl) ?_
        refine va_get (D := D) (ci := 1) (v := .ref (a 2)) (C := R_M) (T := F_M) (N := 16) hx hb hts i_M hown hK hP 0 rfl rfl 2 (by decide) (hts _ fl_M_13) (fun _ h9 => h9) rfl d_M_give_38 ?_
        refine lv_iload_n hx hb d_M_give_41 rfl (lv_at hl 3 rfl) ?_
        refine va_iald (n := 30) hx hb hK hP 2 0 rfl rfl (th_in hN (isThingM_j hN c_14)) d_M_give_42 ?_
        refine lv_iload_n hx hb d_M_give_43 rfl (lv_at hl 2 rfl) ?_
        refine lv_icmp_ne (tgt := 66) hx hb d_M_give_44 (by decide) (fun c_44 => ?_) (fun c_44 => ?_)
        · refine lv_bipush (v := (-2 : Int32)) hx hb d_M_give_66 (by decide) ?_
          exact wRet (u := (B, Q)) hx hb hr rfl hlk (show (-2 : Int32) = (m_give N K B Q who x t).1 ∧ (B, Q) = (m_give N K B Q who x t).2 from by rw [m_give, if_neg c_6, if_neg c_14, if_neg c_22, if_neg c_44]; exact ⟨rfl, rfl⟩) hP hK hS d_M_give_68
        · refine lv_aload_n hx hb d_M_give_47 rfl (lv_at hl 1 rfl) ?_
          refine va_get (D := D) (ci := 1) (v := .ref (a 1)) (C := R_M) (T := F_M) (N := 16) hx hb hts i_M hown hK hP 0 rfl rfl 1 (by decide) (hts _ fl_M_7) (fun _ h9 => h9) rfl d_M_give_48 ?_
          refine lv_iload_n hx hb d_M_give_51 rfl (lv_at hl 4 rfl) ?_
          refine va_iald (n := 30) hx hb hK hP 1 0 rfl rfl (th_in hN (isThingM_j hN c_22)) d_M_give_52 ?_
          refine lv_iconst (v := (1 : Int32)) hx hb d_M_give_53 (by decide) ?_
          refine lv_iconst (v := (3 : Int32)) hx hb d_M_give_54 (by decide) ?_
          refine xst (As := [.int (B 0 t.toNatClampNeg), .int (1 : Int32), .int (3 : Int32)]) (rest := []) Sx (cm_in l (B 0 t.toNatClampNeg) (1 : Int32) (3 : Int32)) v_M_in ⟨rfl, rfl, Nat.le_of_ble_eq_true rfl, Nat.le_of_ble_eq_true rfl⟩ rfl hl.1 rfl (Nat.le_of_ble_eq_true rfl) d_M_give_55 ⟨Nat.le_of_ble_eq_true rfl, Nat.le_of_ble_eq_true rfl⟩ (fun r hq => ?_)
          subst hq
          refine lv_if_eq (tgt := 66) hx hb d_M_give_58 (by decide) (fun c_58 => ?_) (fun c_58 => ?_)
          · refine lv_bipush (v := (-2 : Int32)) hx hb d_M_give_66 (by decide) ?_
            exact wRet (u := (B, Q)) hx hb hr rfl hlk (show (-2 : Int32) = (m_give N K B Q who x t).1 ∧ (B, Q) = (m_give N K B Q who x t).2 from by rw [m_give, if_neg c_6, if_neg c_14, if_neg c_22, if_pos c_44, if_pos c_58]; exact ⟨rfl, rfl⟩) hP hK hS d_M_give_68
          · refine lv_iload_n hx hb d_M_give_61 rfl (lv_at hl 4 rfl) ?_
            refine lv_iload_n hx hb d_M_give_62 rfl (lv_at hl 2 rfl) ?_
            refine lv_icmp_ne (tgt := 69) hx hb d_M_give_63 (by decide) (fun c_63 => ?_) (fun c_63 => ?_)
            · refine lv_iload_n hx hb d_M_give_69 rfl (lv_at hl 4 rfl) ?_
              refine lv_iload_n hx hb d_M_give_70 rfl (lv_at hl 3 rfl) ?_
              refine lv_icmp_eq (tgt := 83) hx hb d_M_give_71 (by decide) (fun c_71 => ?_) (fun c_71 => ?_)
              · refine lv_bipush (v := (-4 : Int32)) hx hb d_M_give_83 (by decide) ?_
                exact wRet (u := (B, Q)) hx hb hr rfl hlk (show (-4 : Int32) = (m_give N K B Q who x t).1 ∧ (B, Q) = (m_give N K B Q who x t).2 from by rw [m_give, if_neg c_6, if_neg c_14, if_neg c_22, if_pos c_44, if_neg c_58, if_neg c_63, if_pos c_71]; exact ⟨rfl, rfl⟩) hP hK hS d_M_give_85
              · refine lv_aload_n hx hb d_M_give_74 rfl (lv_at hl 1 rfl) ?_
                refine lv_iload_n hx hb d_M_give_75 rfl (lv_at hl 4 rfl) ?_
                refine lv_iload_n hx hb d_M_give_76 rfl (lv_at hl 3 rfl) ?_
                refine xro (As := [.int t, .int x]) (rest := []) Sx (cm_isWithin l D a cI cZ N K B Q hN hKK hC hDr t x (isThingM_j hN c_22)) v_M_isWithin ⟨rfl, rfl, Nat.le_of_ble_eq_true rfl, Nat.le_of_ble_eq_true rfl⟩ hK hP (ci := 1) (q0 := 0) rfl rfl rfl hl.1 rfl (Nat.le_of_ble_eq_true rfl) d_M_give_77 ⟨Nat.le_of_ble_eq_true rfl, Nat.le_of_ble_eq_true rfl⟩ (fun r hq => ?_)
                subst hq
                refine lv_if_eq (tgt := 86) hx hb d_M_give_80 (by decide) (fun c_80 => ?_) (fun c_80 => ?_)
                · refine lv_aload_n hx hb d_M_give_86 rfl (lv_at hl 1 rfl) ?_
                  refine lv_iload_n hx hb d_M_give_87 rfl (lv_at hl 2 rfl) ?_
                  refine lv_iload_n hx hb d_M_give_88 rfl (lv_at hl 4 rfl) ?_
                  refine xwi (As := [.int who, .int t]) (rest := []) Sx (cm_findWay l D a cI cZ N K B Q hN hKK hC hDr Z who t (isOfM_j hN c_6) (isThingM_j hN c_22)) v_M_findWay ⟨rfl, rfl, Nat.le_of_ble_eq_true rfl, Nat.le_of_ble_eq_true rfl⟩ hK hP (ci := 1) (q0 := 0) rfl rfl (wM_D hD) hS (fun _ h => h) rfl hl.1 rfl (Nat.le_of_ble_eq_true rfl) d_M_give_89 ⟨Nat.le_of_ble_eq_true rfl, Nat.le_of_ble_eq_true rfl⟩ (fun r u H locs hu hP hS => ?_)
                  obtain ⟨rfl, rfl⟩ := hu
                  have hP : va_P D classes (wM a cI cZ (nI N) (nI K) B ((m_findWay N K B Q who t).2)) H := hP
                  refine lv_if_ne (tgt := 98) hx hb d_M_give_92 (by decide) (fun c_92 => ?_) (fun c_92 => ?_)
                  · refine lv_aload_n hx hb d_M_give_98 rfl (lv_at hl 1 rfl) ?_
                    refine xro (As := []) (rest := []) Sx (cm_firstBarrier l D a cI cZ N K B ((m_findWay N K B Q who t).2) hN hKK hC hDr ((findWay_ok (K := K) (Q := Q) hN hC (isOfM_j hN c_6) (isThingM_j hN c_22)).1) ((findWay_ok (K := K) (Q := Q) hN hC (isOfM_j hN c_6) (isThingM_j hN c_22)).2.1) ((findWay_ok (K := K) (Q := Q) hN hC (isOfM_j hN c_6) (isThingM_j hN c_22)).2.2.1) ((findWay_ok (K := K) (Q := Q) hN hC (isOfM_j hN c_6) (isThingM_j hN c_22)).2.2.2.1) ((findWay_ok (K := K) (Q := Q) hN hC (isOfM_j hN c_6) (isThingM_j hN c_22)).2.2.2.2.1) ((findWay_ok (K := K) (Q := Q) hN hC (isOfM_j hN c_6) (isThingM_j hN c_22)).2.2.2.2.2)) v_M_firstBarrier ⟨rfl, rfl, Nat.le_of_ble_eq_true rfl, Nat.le_of_ble_eq_true rfl⟩ hK hP (ci := 1) (q0 := 0) rfl rfl rfl hl.1 rfl (Nat.le_of_ble_eq_true rfl) d_M_give_99 ⟨Nat.le_of_ble_eq_true rfl, Nat.le_of_ble_eq_true rfl⟩ (fun r hq => ?_)
                    subst hq
                    refine lv_iconst (v := (-1 : Int32)) hx hb d_M_give_102 (by decide) ?_
                    refine lv_icmp_ne (tgt := 114) hx hb d_M_give_103 (by decide) (fun c_103 => ?_) (fun c_103 => ?_)
                    · refine lv_bipush (v := (-6 : Int32)) hx hb d_M_give_114 (by decide) ?_
                      exact wRet (u := (B, (m_findWay N K B Q who t).2)) hx hb hr rfl hlk (show (-6 : Int32) = (m_give N K B Q who x t).1 ∧ (B, (m_findWay N K B Q who t).2) = (m_give N K B Q who x t).2 from by rw [m_give, if_neg c_6, if_neg c_14, if_neg c_22, if_pos c_44, if_neg c_58, if_neg c_63, if_neg c_71, if_pos c_80, if_neg c_92, if_neg c_103]; exact ⟨rfl, rfl⟩) hP hK hS d_M_give_116
                    · refine lv_aload_n hx hb d_M_give_106 rfl (lv_at hl 1 rfl) ?_
                      refine lv_iload_n hx hb d_M_give_107 rfl (lv_at hl 4 rfl) ?_
                      refine xro (As := [.int t]) (rest := []) Sx (cm_isShut l D a cI cZ N K B ((m_findWay N K B Q who t).2) hN hKK hC hDr t (isThingM_j hN c_22)) v_M_isShut ⟨rfl, rfl, Nat.le_of_ble_eq_true rfl, Nat.le_of_ble_eq_true rfl⟩ hK hP (ci := 1) (q0 := 0) rfl rfl rfl hl.1 rfl (Nat.le_of_ble_eq_true rfl) d_M_give_108 ⟨Nat.le_of_ble_eq_true rfl, Nat.le_of_ble_eq_true rfl⟩ (fun r hq => ?_)
                      subst hq
                      refine lv_if_eq (tgt := 117) hx hb d_M_give_111 (by decide) (fun c_111 => ?_) (fun c_111 => ?_)
                      · refine lv_aload_n hx hb d_M_give_117 rfl (lv_at hl 1 rfl) ?_
                        refine lv_iload_n hx hb d_M_give_118 rfl (lv_at hl 4 rfl) ?_
                        refine xro (As := [.int t]) (rest := []) Sx (cm_hasRoom l D a cI cZ N K B ((m_findWay N K B Q who t).2) hN hKK hC hDr t (isThingM_j hN c_22)) v_M_hasRoom ⟨rfl, rfl, Nat.le_of_ble_eq_true rfl, Nat.le_of_ble_eq_true rfl⟩ hK hP (ci := 1) (q0 := 0) rfl rfl rfl hl.1 rfl (Nat.le_of_ble_eq_true rfl) d_M_give_119 ⟨Nat.le_of_ble_eq_true rfl, Nat.le_of_ble_eq_true rfl⟩ (fun r hq => ?_)
                        subst hq
                        refine lv_if_ne (tgt := 128) hx hb d_M_give_122 (by decide) (fun c_122 => ?_) (fun c_122 => ?_)
                        · refine lv_aload_n hx hb d_M_give_128 rfl (lv_at hl 1 rfl) ?_
                          refine va_get (D := D) (ci := 1) (v := .ref (a 2)) (C := R_M) (T := F_M) (N := 16) hx hb hts i_M hown hK hP 0 rfl rfl 2 (by decide) (hts _ fl_M_13) (fun _ h9 => h9) rfl d_M_give_129 ?_
                          refine lv_iload_n hx hb d_M_give_132 rfl (lv_at hl 3 rfl) ?_
                          refine lv_iload_n hx hb d_M_give_133 rfl (lv_at hl 4 rfl) ?_
                          refine va_iast (n := 30) hx hb hK hP (wM_D hD) hS 2 0 rfl rfl (th_in hN (isThingM_j hN c_14)) d_M_give_134 (fun H locs hP _ hS => ?_)
                          have hP : va_P D classes (wM a cI cZ (nI N) (nI K) (sU B 1 x.toNatClampNeg t) ((m_findWay N K B Q who t).2)) H := by have h9 := hP; rw [wM_s2] at h9; exact h9
                          refine lv_iconst (v := (1 : Int32)) hx hb d_M_give_135 (by decide) ?_
                          exact wRet (u := (sU B 1 x.toNatClampNeg t, (m_findWay N K B Q who t).2)) hx hb hr rfl hlk (show (1 : Int32) = (m_give N K B Q who x t).1 ∧ (sU B 1 x.toNatClampNeg t, (m_findWay N K B Q who t).2) = (m_give N K B Q who x t).2 from by rw [m_give, if_neg c_6, if_neg c_14, if_neg c_22, if_pos c_44, if_neg c_58, if_neg c_63, if_neg c_71, if_pos c_80, if_neg c_92, if_pos c_103, if_pos c_111, if_neg c_122]; exact ⟨rfl, rfl⟩) hP hK hS d_M_give_136
                        · refine lv_bipush (v := (-7 : Int32)) hx hb d_M_give_125 (by decide) ?_
                          exact wRet (u := (B, (m_findWay N K B Q who t).2)) hx hb hr rfl hlk (show (-7 : Int32) = (m_give N K B Q who x t).1 ∧ (B, (m_findWay N K B Q who t).2) = (m_give N K B Q who x t).2 from by rw [m_give, if_neg c_6, if_neg c_14, if_neg c_22, if_pos c_44, if_neg c_58, if_neg c_63, if_neg c_71, if_pos c_80, if_neg c_92, if_pos c_103, if_pos c_111, if_pos c_122]; exact ⟨rfl, rfl⟩) hP hK hS d_M_give_127
                      · refine lv_bipush (v := (-6 : Int32)) hx hb d_M_give_114 (by decide) ?_
                        exact wRet (u := (B, (m_findWay N K B Q who t).2)) hx hb hr rfl hlk (show (-6 : Int32) = (m_give N K B Q who x t).1 ∧ (B, (m_findWay N K B Q who t).2) = (m_give N K B Q who x t).2 from by rw [m_give, if_neg c_6, if_neg c_14, if_neg c_22, if_pos c_44, if_neg c_58, if_neg c_63, if_neg c_71, if_pos c_80, if_neg c_92, if_pos c_103, if_neg c_111]; exact ⟨rfl, rfl⟩) hP hK hS d_M_give_116
                  · refine lv_bipush (v := (-5 : Int32)) hx hb d_M_give_95 (by decide) ?_
                    exact wRet (u := (B, (m_findWay N K B Q who t).2)) hx hb hr rfl hlk (show (-5 : Int32) = (m_give N K B Q who x t).1 ∧ (B, (m_findWay N K B Q who t).2) = (m_give N K B Q who x t).2 from by rw [m_give, if_neg c_6, if_neg c_14, if_neg c_22, if_pos c_44, if_neg c_58, if_neg c_63, if_neg c_71, if_pos c_80, if_pos c_92]; exact ⟨rfl, rfl⟩) hP hK hS d_M_give_97
                · refine lv_bipush (v := (-4 : Int32)) hx hb d_M_give_83 (by decide) ?_
                  exact wRet (u := (B, Q)) hx hb hr rfl hlk (show (-4 : Int32) = (m_give N K B Q who x t).1 ∧ (B, Q) = (m_give N K B Q who x t).2 from by rw [m_give, if_neg c_6, if_neg c_14, if_neg c_22, if_pos c_44, if_neg c_58, if_neg c_63, if_neg c_71, if_neg c_80]; exact ⟨rfl, rfl⟩) hP hK hS d_M_give_85
            · refine lv_bipush (v := (-2 : Int32)) hx hb d_M_give_66 (by decide) ?_
              exact wRet (u := (B, Q)) hx hb hr rfl hlk (show (-2 : Int32) = (m_give N K B Q who x t).1 ∧ (B, Q) = (m_give N K B Q who x t).2 from by rw [m_give, if_neg c_6, if_neg c_14, if_neg c_22, if_pos c_44, if_neg c_58, if_pos c_63]; exact ⟨rfl, rfl⟩) hP hK hS d_M_give_68

def m_drop (N : Nat) (K : Nat) (B : Nat → Nat → Int32) (Q : Nat → Nat → Int32) (who x : Int32) : Int32 × (Nat → Nat → Int32) × (Nat → Nat → Int32) := (if (m_isOf N K B Q who (3 : Int32)) = (0 : Int32) then ((-2 : Int32), (B, Q)) else (if (m_isThing N K B Q x) = (0 : Int32) then ((-2 : Int32), (B, Q)) else (if (B 1 x.toNatClampNeg) = who then (if (B 1 who.toNatClampNeg) = (-1 : Int32) then ((-5 : Int32), (B, Q)) else (if (m_hasRoom N K B Q (B 1 who.toNatClampNeg)) = (0 : Int32) then ((-7 : Int32), (B, Q)) else ((1 : Int32), (sU B 1 x.toNatClampNeg (B 1 who.toNatClampNeg), Q)))) else ((-2 : Int32), (B, Q)))))
set_option maxHeartbeats 4000000 in
set_option maxRecDepth 100000 in
theorem cm_drop (l : Launch) (D : va_G) (a : Nat → Nat) (cI cZ : ClassId) (N K : Nat) (B Q : Nat → Nat → Int32) (hN : N ≤ 30) (hKK : K ≤ 10) (hC : chs N B) (hDr : drM N K B) (Z : Nat → Prop) (who x : Int32) : Met l y_M_drop (Cond.code y_M_drop b_M_drop 3 (some .int) :: BW) ({ frames := 3, cells := 0, slots := 0, locals := 65 } : Room) (PcW D Z (wM a cI cZ (nI N) (nI K) B Q) (tM cI cZ) [.ref (a 0), .int who, .int x]) (va_Qi (fun r u => r = (m_drop N K B Q who x).1 ∧ u = (m_drop N K B Q who x).2) (atW D (fun u => wM a cI cZ (nI N) (nI K) u.1 u.2) (tM cI cZ)) Z) 0 0 Z := by
  refine wStart (by decide) rfl (Nat.le_of_ble_eq_true rfl) (fun p e s m below meth c Sx hr hlk hP hK hD hS ls hl => ?_)
  obtain ⟨hx, hb, hml, hown, hts⟩ := id Sx
  have hl : lv_has ls 3 [(0, .ref (a 0)), (1, .int who), (2, .int x)] := hl
  refine lv_aload_n hx hb d_M_drop_0 rfl (lv_at hl 0 rfl) ?_
  refine lv_iload_n hx hb d_M_drop_1 rfl (lv_at hl 1 rfl) ?_
  refine lv_iconst (v := (3 : Int32)) hx hb d_M_drop_2 (by decide) ?_
  refine xro (As := [.int who, .int (3 : Int32)]) (rest := []) Sx (cm_isOf l D a cI cZ N K B Q hN hKK hC hDr who (3 : Int32)) v_M_isOf ⟨rfl, rfl, Nat.le_of_ble_eq_true rfl, Nat.le_of_ble_eq_true rfl⟩ hK hP (ci := 1) (q0 := 0) rfl rfl rfl hl.1 rfl (Nat.le_of_ble_eq_true rfl) d_M_drop_3 ⟨Nat.le_of_ble_eq_true rfl, Nat.le_of_ble_eq_true rfl⟩ (fun r hq => ?_)
  subst hq
  refine lv_if_eq (tgt := 27) hx hb d_M_drop_6 (by decide) (fun c_6 => ?_) (fun c_6 => ?_)
  · refine lv_bipush (v := (-2 : Int32)) hx hb d_M_drop_27 (by decide) ?_
    exact wRet (u := (B, Q)) hx hb hr rfl hlk (show (-2 : Int32) = (m_drop N K B Q who x).1 ∧ (B, Q) = (m_drop N K B Q who x).2 from by rw [m_drop, if_pos c_6]; exact ⟨rfl, rfl⟩) hP hK hS d_M_drop_29
  · refine lv_aload_n hx hb d_M_drop_9 rfl (lv_at hl 0 rfl) ?_
    refine lv_iload_n hx hb d_M_drop_10 rfl (lv_at hl 2 rfl) ?_
    refine xro (As := [.int x]) (rest := []) Sx (cm_isThing l D a cI cZ N K B Q hN hKK hC hDr x) v_M_isThing ⟨rfl, rfl, Nat.le_of_ble_eq_true rfl, Nat.le_of_ble_eq_true rfl⟩ hK hP (ci := 1) (q0 := 0) rfl rfl rfl hl.1 rfl (Nat.le_of_ble_eq_true rfl) d_M_drop_11 ⟨Nat.le_of_ble_eq_true rfl, Nat.le_of_ble_eq_true rfl⟩ (fun r hq => ?_)
    subst hq
    refine lv_if_eq (tgt := 27) hx hb d_M_drop_14 (by decide) (fun c_14 => ?_) (fun c_14 => ?_)
    · refine lv_bipush (v := (-2 : Int32)) hx hb d_M_drop_27 (by decide) ?_
      exact wRet (u := (B, Q)) hx hb hr rfl hlk (show (-2 : Int32) = (m_drop N K B Q who x).1 ∧ (B, Q) = (m_drop N K B Q who x).2 from by rw [m_drop, if_neg c_6, if_pos c_14]; exact ⟨rfl, rfl⟩) hP hK hS d_M_drop_29
    · refine lv_aload_n hx hb d_M_drop_17 rfl (lv_at hl 0 rfl) ?_
      refine va_get (D := D) (ci := 1) (v := .ref (a 2)) (C := R_M) (T := F_M) (N := 16) hx hb hts i_M hown hK hP 0 rfl rfl 2 (by decide) (hts _ fl_M_13) (fun _ h9 => h9) rfl d_M_drop_18 ?_
      refine lv_iload_n hx hb d_M_drop_21 rfl (lv_at hl 2 rfl) ?_
      refine va_iald (n := 30) hx hb hK hP 2 0 rfl rfl (th_in hN (isThingM_j hN c_14)) d_M_drop_22 ?_
      refine lv_iload_n hx hb d_M_drop_23 rfl (lv_at hl 1 rfl) ?_
      refine lv_icmp_eq (tgt := 30) hx hb d_M_drop_24 (by decide) (fun c_24 => ?_) (fun c_24 => ?_)
      · refine lv_aload_n hx hb d_M_drop_30 rfl (lv_at hl 0 rfl) ?_
        refine va_get (D := D) (ci := 1) (v := .ref (a 2)) (C := R_M) (T := F_M) (N := 16) hx hb hts i_M hown hK hP 0 rfl rfl 2 (by decide) (hts _ fl_M_13) (fun _ h9 => h9) rfl d_M_drop_31 ?_
        refine lv_iload_n hx hb d_M_drop_34 rfl (lv_at hl 1 rfl) ?_
        refine va_iald (n := 30) hx hb hK hP 2 0 rfl rfl (th_in hN (isOfM_j hN c_6)) d_M_drop_35 ?_
        refine lv_iconst (v := (-1 : Int32)) hx hb d_M_drop_36 (by decide) ?_
        refine lv_icmp_ne (tgt := 43) hx hb d_M_drop_37 (by decide) (fun c_37 => ?_) (fun c_37 => ?_)
        · refine lv_aload_n hx hb d_M_drop_43 rfl (lv_at hl 0 rfl) ?_
          refine lv_aload_n hx hb d_M_drop_44 rfl (lv_at hl 0 rfl) ?_
          refine va_get (D := D) (ci := 1) (v := .ref (a 2)) (C := R_M) (T := F_M) (N := 16) hx hb hts i_M hown hK hP 0 rfl rfl 2 (by decide) (hts _ fl_M_13) (fun _ h9 => h9) rfl d_M_drop_45 ?_
          refine lv_iload_n hx hb d_M_drop_48 rfl (lv_at hl 1 rfl) ?_
          refine va_iald (n := 30) hx hb hK hP 2 0 rfl rfl (th_in hN (isOfM_j hN c_6)) d_M_drop_49 ?_
          refine xro (As := [.int (B 1 who.toNatClampNeg)]) (rest := []) Sx (cm_hasRoom l D a cI cZ N K B Q hN hKK hC hDr (B 1 who.toNatClampNeg) (hol_j hN hC (isOfM_j hN c_6) c_37)) v_M_hasRoom ⟨rfl, rfl, Nat.le_of_ble_eq_true rfl, Nat.le_of_ble_eq_true rfl⟩ hK hP (ci := 1) (q0 := 0) rfl rfl rfl hl.1 rfl (Nat.le_of_ble_eq_true rfl) d_M_drop_50 ⟨Nat.le_of_ble_eq_true rfl, Nat.le_of_ble_eq_true rfl⟩ (fun r hq => ?_)
          subst hq
          refine lv_if_ne (tgt := 59) hx hb d_M_drop_53 (by decide) (fun c_53 => ?_) (fun c_53 => ?_)
          · refine lv_aload_n hx hb d_M_drop_59 rfl (lv_at hl 0 rfl) ?_
            refine va_get (D := D) (ci := 1) (v := .ref (a 2)) (C := R_M) (T := F_M) (N := 16) hx hb hts i_M hown hK hP 0 rfl rfl 2 (by decide) (hts _ fl_M_13) (fun _ h9 => h9) rfl d_M_drop_60 ?_
            refine lv_iload_n hx hb d_M_drop_63 rfl (lv_at hl 2 rfl) ?_
            refine lv_aload_n hx hb d_M_drop_64 rfl (lv_at hl 0 rfl) ?_
            refine va_get (D := D) (ci := 1) (v := .ref (a 2)) (C := R_M) (T := F_M) (N := 16) hx hb hts i_M hown hK hP 0 rfl rfl 2 (by decide) (hts _ fl_M_13) (fun _ h9 => h9) rfl d_M_drop_65 ?_
            refine lv_iload_n hx hb d_M_drop_68 rfl (lv_at hl 1 rfl) ?_
            refine va_iald (n := 30) hx hb hK hP 2 0 rfl rfl (th_in hN (isOfM_j hN c_6)) d_M_drop_69 ?_
            refine va_iast (n := 30) hx hb hK hP (wM_D hD) hS 2 0 rfl rfl (th_in hN (isThingM_j hN c_14)) d_M_drop_70 (fun H locs hP _ hS => ?_)
            have hP : va_P D classes (wM a cI cZ (nI N) (nI K) (sU B 1 x.toNatClampNeg (B 1 who.toNatClampNeg)) Q) H := by have h9 := hP; rw [wM_s2] at h9; exact h9
            refine lv_iconst (v := (1 : Int32)) hx hb d_M_drop_71 (by decide) ?_
            exact wRet (u := (sU B 1 x.toNatClampNeg (B 1 who.toNatClampNeg), Q)) hx hb hr rfl hlk (show (1 : Int32) = (m_drop N K B Q who x).1 ∧ (sU B 1 x.toNatClampNeg (B 1 who.toNatClampNeg), Q) = (m_drop N K B Q who x).2 from by rw [m_drop, if_neg c_6, if_neg c_14, if_pos c_24, if_neg c_37, if_neg c_53]; exact ⟨rfl, rfl⟩) hP hK hS d_M_drop_72
          · refine lv_bipush (v := (-7 : Int32)) hx hb d_M_drop_56 (by decide) ?_
            exact wRet (u := (B, Q)) hx hb hr rfl hlk (show (-7 : Int32) = (m_drop N K B Q who x).1 ∧ (B, Q) = (m_drop N K B Q who x).2 from by rw [m_drop, if_neg c_6, if_neg c_14, if_pos c_24, if_neg c_37, if_pos c_53]; exact ⟨rfl, rfl⟩) hP hK hS d_M_drop_58
        · refine lv_bipush (v := (-5 : Int32)) hx hb d_M_drop_40 (by decide) ?_
          exact wRet (u := (B, Q)) hx hb hr rfl hlk (show (-5 : Int32) = (m_drop N K B Q who x).1 ∧ (B, Q) = (m_drop N K B Q who x).2 from by rw [m_drop, if_neg c_6, if_neg c_14, if_pos c_24, if_pos c_37]; exact ⟨rfl, rfl⟩) hP hK hS d_M_drop_42
      · refine lv_bipush (v := (-2 : Int32)) hx hb d_M_drop_27 (by decide) ?_
        exact wRet (u := (B, Q)) hx hb hr rfl hlk (show (-2 : Int32) = (m_drop N K B Q who x).1 ∧ (B, Q) = (m_drop N K B Q who x).2 from by rw [m_drop, if_neg c_6, if_neg c_14, if_neg c_24]; exact ⟨rfl, rfl⟩) hP hK hS d_M_drop_29

def m_go (N : Nat) (K : Nat) (B : Nat → Nat → Int32) (Q : Nat → Nat → Int32) (who dr : Int32) : Int32 × (Nat → Nat → Int32) × (Nat → Nat → Int32) := (if (m_isOf N K B Q who (3 : Int32)) = (0 : Int32) then ((-2 : Int32), (B, Q)) else (if (m_isDoor N K B Q dr) = (0 : Int32) then ((-2 : Int32), (B, Q)) else (if (B 1 who.toNatClampNeg) = (-1 : Int32) then ((-5 : Int32), (B, Q)) else (if (B 1 who.toNatClampNeg) = (B 3 dr.toNatClampNeg) then (if (B 5 dr.toNatClampNeg) = (0 : Int32) then ((-6 : Int32), (B, Q)) else ((sU B 1 who.toNatClampNeg (B 4 dr.toNatClampNeg)) 1 who.toNatClampNeg, (sU B 1 who.toNatClampNeg (B 4 dr.toNatClampNeg), Q))) else (if (B 1 who.toNatClampNeg) = (B 4 dr.toNatClampNeg) then (if (B 5 dr.toNatClampNeg) = (0 : Int32) then ((-6 : Int32), (B, Q)) else ((sU B 1 who.toNatClampNeg (B 3 dr.toNatClampNeg)) 1 who.toNatClampNeg, (sU B 1 who.toNatClampNeg (B 3 dr.toNatClampNeg), Q))) else ((-5 : Int32), (B, Q)))))))
set_option maxHeartbeats 4000000 in
set_option maxRecDepth 100000 in
theorem cm_go (l : Launch) (D : va_G) (a : Nat → Nat) (cI cZ : ClassId) (N K : Nat) (B Q : Nat → Nat → Int32) (hN : N ≤ 30) (hKK : K ≤ 10) (hC : chs N B) (hDr : drM N K B) (Z : Nat → Prop) (who dr : Int32) : Met l y_M_go (Cond.code y_M_go b_M_go 4 (some .int) :: BW) ({ frames := 3, cells := 0, slots := 0, locals := 65 } : Room) (PcW D Z (wM a cI cZ (nI N) (nI K) B Q) (tM cI cZ) [.ref (a 0), .int who, .int dr]) (va_Qi (fun r u => r = (m_go N K B Q who dr).1 ∧ u = (m_go N K B Q who dr).2) (atW D (fun u => wM a cI cZ (nI N) (nI K) u.1 u.2) (tM cI cZ)) Z) 0 0 Z := by
  refine wStart (by decide) rfl (Nat.le_of_ble_eq_true rfl) (fun p e s m below meth c Sx hr hlk hP hK hD hS ls hl => ?_)
  obtain ⟨hx, hb, hml, hown, hts⟩ := id Sx
  have hl : lv_has ls 4 [(0, .ref (a 0)), (1, .int who), (2, .int dr)] := hl
  refine lv_aload_n hx hb d_M_go_0 rfl (lv_at hl 0 rfl) ?_
  refine lv_iload_n hx hb d_M_go_1 rfl (lv_at hl 1 rfl) ?_
  refine lv_iconst (v := (3 : Int32)) hx hb d_M_go_2 (by decide) ?_
  refine xro (As := [.int who, .int (3 : Int32)]) (rest := []) Sx (cm_isOf l D a cI cZ N K B Q hN hKK hC hDr who (3 : Int32)) v_M_isOf ⟨rfl, rfl, Nat.le_of_ble_eq_true rfl, Nat.le_of_ble_eq_true rfl⟩ hK hP (ci := 1) (q0 := 0) rfl rfl rfl hl.1 rfl (Nat.le_of_ble_eq_true rfl) d_M_go_3 ⟨Nat.le_of_ble_eq_true rfl, Nat.le_of_ble_eq_true rfl⟩ (fun r hq => ?_)
  subst hq
  refine lv_if_eq (tgt := 17) hx hb d_M_go_6 (by decide) (fun c_6 => ?_) (fun c_6 => ?_)
  · refine lv_bipush (v := (-2 : Int32)) hx hb d_M_go_17 (by decide) ?_
    exact wRet (u := (B, Q)) hx hb hr rfl hlk (show (-2 : Int32) = (m_go N K B Q who dr).1 ∧ (B, Q) = (m_go N K B Q who dr).2 from by rw [m_go, if_pos c_6]; exact ⟨rfl, rfl⟩) hP hK hS d_M_go_19
  · refine lv_aload_n hx hb d_M_go_9 rfl (lv_at hl 0 rfl) ?_
    refine lv_iload_n hx hb d_M_go_10 rfl (lv_at hl 2 rfl) ?_
    refine xro (As := [.int dr]) (rest := []) Sx (cm_isDoor l D a cI cZ N K B Q hN hKK hC hDr dr) v_M_isDoor ⟨rfl, rfl, Nat.le_of_ble_eq_true rfl, Nat.le_of_ble_eq_true rfl⟩ hK hP (ci := 1) (q0 := 0) rfl rfl rfl hl.1 rfl (Nat.le_of_ble_eq_true rfl) d_M_go_11 ⟨Nat.le_of_ble_eq_true rfl, Nat.le_of_ble_eq_true rfl⟩ (fun r hq => ?_)
    subst hq
    refine lv_if_ne (tgt := 20) hx hb d_M_go_14 (by decide) (fun c_14 => ?_) (fun c_14 => ?_)
    · refine lv_aload_n hx hb d_M_go_20 rfl (lv_at hl 0 rfl) ?_
      refine va_get (D := D) (ci := 1) (v := .ref (a 2)) (C := R_M) (T := F_M) (N := 16) hx hb hts i_M hown hK hP 0 rfl rfl 2 (by decide) (hts _ fl_M_13) (fun _ h9 => h9) rfl d_M_go_21 ?_
      refine lv_iload_n hx hb d_M_go_24 rfl (lv_at hl 1 rfl) ?_
      refine va_iald (n := 30) hx hb hK hP 2 0 rfl rfl (th_in hN (isOfM_j hN c_6)) d_M_go_25 ?_
      refine lv_istore_n (lv' := [(3, .int (B 1 who.toNatClampNeg)), (0, .ref (a 0)), (1, .int who), (2, .int dr)]) hx hb d_M_go_26 rfl hl (by decide) rfl (fun ls hl => ?_)
      refine lv_iload_n hx hb d_M_go_27 rfl (lv_at hl 0 rfl) ?_
      refine lv_iconst (v := (-1 : Int32)) hx hb d_M_go_28 (by decide) ?_
      refine lv_icmp_eq (tgt := 52) hx hb d_M_go_29 (by decide) (fun c_29 => ?_) (fun c_29 => ?_)
      · refine lv_bipush (v := (-5 : Int32)) hx hb d_M_go_52 (by decide) ?_
        exact wRet (u := (B, Q)) hx hb hr rfl hlk (show (-5 : Int32) = (m_go N K B Q who dr).1 ∧ (B, Q) = (m_go N K B Q who dr).2 from by rw [m_go, if_neg c_6, if_neg c_14, if_pos c_29]; exact ⟨rfl, rfl⟩) hP hK hS d_M_go_54
      · refine lv_iload_n hx hb d_M_go_32 rfl (lv_at hl 0 rfl) ?_
        refine lv_aload_n hx hb d_M_go_33 rfl (lv_at hl 1 rfl) ?_
        refine va_get (D := D) (ci := 1) (v := .ref (a 4)) (C := R_M) (T := F_M) (N := 16) hx hb hts i_M hown hK hP 0 rfl rfl 5 (by decide) (hts _ fl_M_19) (fun _ h9 => h9) rfl d_M_go_34 ?_
        refine lv_iload_n hx hb d_M_go_37 rfl (lv_at hl 3 rfl) ?_
        refine va_iald (n := 10) hx hb hK hP 4 0 rfl rfl (dr_in hKK (isDoorM_j hKK c_14)) d_M_go_38 ?_
        refine lv_icmp_eq (tgt := 55) hx hb d_M_go_39 (by decide) (fun c_39 => ?_) (fun c_39 => ?_)
        · refine lv_aload_n hx hb d_M_go_55 rfl (lv_at hl 1 rfl) ?_
          refine va_get (D := D) (ci := 1) (v := .ref (a 6)) (C := R_M) (T := F_M) (N := 16) hx hb hts i_M hown hK hP 0 rfl rfl 7 (by decide) (hts _ fl_M_25) (fun _ h9 => h9) rfl d_M_go_56 ?_
          refine lv_iload_n hx hb d_M_go_59 rfl (lv_at hl 3 rfl) ?_
          refine va_iald (n := 10) hx hb hK hP 6 0 rfl rfl (dr_in hKK (isDoorM_j hKK c_14)) d_M_go_60 ?_
          refine lv_if_ne (tgt := 67) hx hb d_M_go_61 (by decide) (fun c_61 => ?_) (fun c_61 => ?_)
          · refine lv_aload_n hx hb d_M_go_67 rfl (lv_at hl 1 rfl) ?_
            refine va_get (D := D) (ci := 1) (v := .ref (a 2)) (C := R_M) (T := F_M) (N := 16) hx hb hts i_M hown hK hP 0 rfl rfl 2 (by decide) (hts _ fl_M_13) (fun _ h9 => h9) rfl d_M_go_68 ?_
            refine lv_iload_n hx hb d_M_go_71 rfl (lv_at hl 2 rfl) ?_
            refine lv_iload_n hx hb d_M_go_72 rfl (lv_at hl 0 rfl) ?_
            refine lv_aload_n hx hb d_M_go_73 rfl (lv_at hl 1 rfl) ?_
            refine va_get (D := D) (ci := 1) (v := .ref (a 4)) (C := R_M) (T := F_M) (N := 16) hx hb hts i_M hown hK hP 0 rfl rfl 5 (by decide) (hts _ fl_M_19) (fun _ h9 => h9) rfl d_M_go_74 ?_
            refine lv_iload_n hx hb d_M_go_77 rfl (lv_at hl 3 rfl) ?_
            refine va_iald (n := 10) hx hb hK hP 4 0 rfl rfl (dr_in hKK (isDoorM_j hKK c_14)) d_M_go_78 ?_
            refine lv_icmp_ne (tgt := 91) hx hb d_M_go_79 (by decide) (fun c_79 => absurd c_39 c_79) (fun c_79 => ?_)
            refine lv_aload_n hx hb d_M_go_82 rfl (lv_at hl 1 rfl) ?_
            refine va_get (D := D) (ci := 1) (v := .ref (a 5)) (C := R_M) (T := F_M) (N := 16) hx hb hts i_M hown hK hP 0 rfl rfl 6 (by decide) (hts _ fl_M_22) (fun _ h9 => h9) rfl d_M_go_83 ?_
            refine lv_iload_n hx hb d_M_go_86 rfl (lv_at hl 3 rfl) ?_
            refine va_iald (n := 10) hx hb hK hP 5 0 rfl rfl (dr_in hKK (isDoorM_j hKK c_14)) d_M_go_87 ?_
            refine lv_goto (tgt := 97) hx hb d_M_go_88 (by decide) ?_
            refine va_iast (n := 30) hx hb hK hP (wM_D hD) hS 2 0 rfl rfl (th_in hN (isOfM_j hN c_6)) d_M_go_97 (fun H locs hP _ hS => ?_)
            have hP : va_P D classes (wM a cI cZ (nI N) (nI K) (sU B 1 who.toNatClampNeg (B 4 dr.toNatClampNeg)) Q) H := by have h9 := hP; rw [wM_s2] at h9; exact h9
            refine lv_aload_n hx hb d_M_go_98 rfl (lv_at hl 1 rfl) ?_
            refine va_get (D := D) (ci := 1) (v := .ref (a 2)) (C := R_M) (T := F_M) (N := 16) hx hb hts i_M hown hK hP 0 rfl rfl 2 (by decide) (hts _ fl_M_13) (fun _ h9 => h9) rfl d_M_go_99 ?_
            refine lv_iload_n hx hb d_M_go_102 rfl (lv_at hl 2 rfl) ?_
            refine va_iald (n := 30) hx hb hK hP 2 0 rfl rfl (th_in hN (isOfM_j hN c_6)) d_M_go_103 ?_
            exact wRet (u := (sU B 1 who.toNatClampNeg (B 4 dr.toNatClampNeg), Q)) hx hb hr rfl hlk (show (sU B 1 who.toNatClampNeg (B 4 dr.toNatClampNeg)) 1 who.toNatClampNeg = (m_go N K B Q who dr).1 ∧ (sU B 1 who.toNatClampNeg (B 4 dr.toNatClampNeg), Q) = (m_go N K B Q who dr).2 from by rw [m_go, if_neg c_6, if_neg c_14, if_neg c_29, if_pos c_39, if_neg c_61]; exact ⟨rfl, rfl⟩) hP hK hS d_M_go_104
          · refine lv_bipush (v := (-6 : Int32)) hx hb d_M_go_64 (by decide) ?_
            exact wRet (u := (B, Q)) hx hb hr rfl hlk (show (-6 : Int32) = (m_go N K B Q who dr).1 ∧ (B, Q) = (m_go N K B Q who dr).2 from by rw [m_go, if_neg c_6, if_neg c_14, if_neg c_29, if_pos c_39, if_pos c_61]; exact ⟨rfl, rfl⟩) hP hK hS d_M_go_66
        · refine lv_iload_n hx hb d_M_go_42 rfl (lv_at hl 0 rfl) ?_
          refine lv_aload_n hx hb d_M_go_43 rfl (lv_at hl 1 rfl) ?_
          refine va_get (D := D) (ci := 1) (v := .ref (a 5)) (C := R_M) (T := F_M) (N := 16) hx hb hts i_M hown hK hP 0 rfl rfl 6 (by decide) (hts _ fl_M_22) (fun _ h9 => h9) rfl d_M_go_44 ?_
          refine lv_iload_n hx hb d_M_go_47 rfl (lv_at hl 3 rfl) ?_
          refine va_iald (n := 10) hx hb hK hP 5 0 rfl rfl (dr_in hKK (isDoorM_j hKK c_14)) d_M_go_48 ?_
          refine lv_icmp_eq (tgt := 55) hx hb d_M_go_49 (by decide) (fun c_49 => ?_) (fun c_49 => ?_)
          · refine lv_aload_n hx hb d_M_go_55 rfl (lv_at hl 1 rfl) ?_
            refine va_get (D := D) (ci := 1) (v := .ref (a 6)) (C := R_M) (T := F_M) (N := 16) hx hb hts i_M hown hK hP 0 rfl rfl 7 (by decide) (hts _ fl_M_25) (fun _ h9 => h9) rfl d_M_go_56 ?_
            refine lv_iload_n hx hb d_M_go_59 rfl (lv_at hl 3 rfl) ?_
            refine va_iald (n := 10) hx hb hK hP 6 0 rfl rfl (dr_in hKK (isDoorM_j hKK c_14)) d_M_go_60 ?_
            refine lv_if_ne (tgt := 67) hx hb d_M_go_61 (by decide) (fun c_61 => ?_) (fun c_61 => ?_)
            · refine lv_aload_n hx hb d_M_go_67 rfl (lv_at hl 1 rfl) ?_
              refine va_get (D := D) (ci := 1) (v := .ref (a 2)) (C := R_M) (T := F_M) (N := 16) hx hb hts i_M hown hK hP 0 rfl rfl 2 (by decide) (hts _ fl_M_13) (fun _ h9 => h9) rfl d_M_go_68 ?_
              refine lv_iload_n hx hb d_M_go_71 rfl (lv_at hl 2 rfl) ?_
              refine lv_iload_n hx hb d_M_go_72 rfl (lv_at hl 0 rfl) ?_
              refine lv_aload_n hx hb d_M_go_73 rfl (lv_at hl 1 rfl) ?_
              refine va_get (D := D) (ci := 1) (v := .ref (a 4)) (C := R_M) (T := F_M) (N := 16) hx hb hts i_M hown hK hP 0 rfl rfl 5 (by decide) (hts _ fl_M_19) (fun _ h9 => h9) rfl d_M_go_74 ?_
              refine lv_iload_n hx hb d_M_go_77 rfl (lv_at hl 3 rfl) ?_
              refine va_iald (n := 10) hx hb hK hP 4 0 rfl rfl (dr_in hKK (isDoorM_j hKK c_14)) d_M_go_78 ?_
              refine lv_icmp_ne (tgt := 91) hx hb d_M_go_79 (by decide) (fun c_79 => ?_) (fun c_79 => absurd c_79 c_39)
              refine lv_aload_n hx hb d_M_go_91 rfl (lv_at hl 1 rfl) ?_
              refine va_get (D := D) (ci := 1) (v := .ref (a 4)) (C := R_M) (T := F_M) (N := 16) hx hb hts i_M hown hK hP 0 rfl rfl 5 (by decide) (hts _ fl_M_19) (fun _ h9 => h9) rfl d_M_go_92 ?_
              refine lv_iload_n hx hb d_M_go_95 rfl (lv_at hl 3 rfl) ?_
              refine va_iald (n := 10) hx hb hK hP 4 0 rfl rfl (dr_in hKK (isDoorM_j hKK c_14)) d_M_go_96 ?_
              refine va_iast (n := 30) hx hb hK hP (wM_D hD) hS 2 0 rfl rfl (th_in hN (isOfM_j hN c_6)) d_M_go_97 (fun H locs hP _ hS => ?_)
              have hP : va_P D classes (wM a cI cZ (nI N) (nI K) (sU B 1 who.toNatClampNeg (B 3 dr.toNatClampNeg)) Q) H := by have h9 := hP; rw [wM_s2] at h9; exact h9
              refine lv_aload_n hx hb d_M_go_98 rfl (lv_at hl 1 rfl) ?_
              refine va_get (D := D) (ci := 1) (v := .ref (a 2)) (C := R_M) (T := F_M) (N := 16) hx hb hts i_M hown hK hP 0 rfl rfl 2 (by decide) (hts _ fl_M_13) (fun _ h9 => h9) rfl d_M_go_99 ?_
              refine lv_iload_n hx hb d_M_go_102 rfl (lv_at hl 2 rfl) ?_
              refine va_iald (n := 30) hx hb hK hP 2 0 rfl rfl (th_in hN (isOfM_j hN c_6)) d_M_go_103 ?_
              exact wRet (u := (sU B 1 who.toNatClampNeg (B 3 dr.toNatClampNeg), Q)) hx hb hr rfl hlk (show (sU B 1 who.toNatClampNeg (B 3 dr.toNatClampNeg)) 1 who.toNatClampNeg = (m_go N K B Q who dr).1 ∧ (sU B 1 who.toNatClampNeg (B 3 dr.toNatClampNeg), Q) = (m_go N K B Q who dr).2 from by rw [m_go, if_neg c_6, if_neg c_14, if_neg c_29, if_neg c_39, if_pos c_49, if_neg c_61]; exact ⟨rfl, rfl⟩) hP hK hS d_M_go_104
            · refine lv_bipush (v := (-6 : Int32)) hx hb d_M_go_64 (by decide) ?_
              exact wRet (u := (B, Q)) hx hb hr rfl hlk (show (-6 : Int32) = (m_go N K B Q who dr).1 ∧ (B, Q) = (m_go N K B Q who dr).2 from by rw [m_go, if_neg c_6, if_neg c_14, if_neg c_29, if_neg c_39, if_pos c_49, if_pos c_61]; exact ⟨rfl, rfl⟩) hP hK hS d_M_go_66
          · refine lv_bipush (v := (-5 : Int32)) hx hb d_M_go_52 (by decide) ?_
            exact wRet (u := (B, Q)) hx hb hr rfl hlk (show (-5 : Int32) = (m_go N K B Q who dr).1 ∧ (B, Q) = (m_go N K B Q who dr).2 from by rw [m_go, if_neg c_6, if_neg c_14, if_neg c_29, if_neg c_39, if_neg c_49]; exact ⟨rfl, rfl⟩) hP hK hS d_M_go_54
    · refine lv_bipush (v := (-2 : Int32)) hx hb d_M_go_17 (by decide) ?_
      exact wRet (u := (B, Q)) hx hb hr rfl hlk (show (-2 : Int32) = (m_go N K B Q who dr).1 ∧ (B, Q) = (m_go N K B Q who dr).2 from by rw [m_go, if_neg c_6, if_pos c_14]; exact ⟨rfl, rfl⟩) hP hK hS d_M_go_19

def m_space (N : Nat) (K : Nat) (B : Nat → Nat → Int32) (Q : Nat → Nat → Int32) (x what : Int32) : Int32 × (Nat → Nat → Int32) := (if (m_isSpace N K B Q x) = (0 : Int32) then ((-2 : Int32), Q) else (if (m_in what (0 : Int32) (1 : Int32)) = (0 : Int32) then ((-3 : Int32), Q) else (m_greatest N K B (m_findLosses N K B Q what (1 : Int32)) x what, m_findLosses N K B Q what (1 : Int32))))
set_option maxHeartbeats 4000000 in
set_option maxRecDepth 100000 in
theorem cm_space (l : Launch) (D : va_G) (a : Nat → Nat) (cI cZ : ClassId) (N K : Nat) (B Q : Nat → Nat → Int32) (hN : N ≤ 30) (hKK : K ≤ 10) (hC : chs N B) (hDr : drM N K B) (Z : Nat → Prop) (x what : Int32) : Met l y_M_space (Cond.code y_M_space b_M_space 3 (some .int) :: BW) ({ frames := 6, cells := 0, slots := 0, locals := 134 } : Room) (PcW D Z (wM a cI cZ (nI N) (nI K) B Q) (tM cI cZ) [.ref (a 0), .int x, .int what]) (va_Qi (fun r u => r = (m_space N K B Q x what).1 ∧ u = (m_space N K B Q x what).2) (atW D (fun u => wM a cI cZ (nI N) (nI K) B u) (tM cI cZ)) Z) 0 0 Z := by
  refine wStart (by decide) rfl (Nat.le_of_ble_eq_true rfl) (fun p e s m below meth c Sx hr hlk hP hK hD hS ls hl => ?_)
  obtain ⟨hx, hb, hml, hown, hts⟩ := id Sx
  have hl : lv_has ls 3 [(0, .ref (a 0)), (1, .int x), (2, .int what)] := hl
  refine lv_aload_n hx hb d_M_space_0 rfl (lv_at hl 0 rfl) ?_
  refine lv_iload_n hx hb d_M_space_1 rfl (lv_at hl 1 rfl) ?_
  refine xro (As := [.int x]) (rest := []) Sx (cm_isSpace l D a cI cZ N K B Q hN hKK hC hDr x) v_M_isSpace ⟨rfl, rfl, Nat.le_of_ble_eq_true rfl, Nat.le_of_ble_eq_true rfl⟩ hK hP (ci := 1) (q0 := 0) rfl rfl rfl hl.1 rfl (Nat.le_of_ble_eq_true rfl) d_M_space_2 ⟨Nat.le_of_ble_eq_true rfl, Nat.le_of_ble_eq_true rfl⟩ (fun r hq => ?_)
  subst hq
  refine lv_if_ne (tgt := 11) hx hb d_M_space_5 (by decide) (fun c_5 => ?_) (fun c_5 => ?_)
  · refine lv_iload_n hx hb d_M_space_11 rfl (lv_at hl 2 rfl) ?_
    refine lv_iconst (v := (0 : Int32)) hx hb d_M_space_12 (by decide) ?_
    refine lv_iconst (v := (1 : Int32)) hx hb d_M_space_13 (by decide) ?_
    refine xst (As := [.int what, .int (0 : Int32), .int (1 : Int32)]) (rest := []) Sx (cm_in l what (0 : Int32) (1 : Int32)) v_M_in ⟨rfl, rfl, Nat.le_of_ble_eq_true rfl, Nat.le_of_ble_eq_true rfl⟩ rfl hl.1 rfl (Nat.le_of_ble_eq_true rfl) d_M_space_14 ⟨Nat.le_of_ble_eq_true rfl, Nat.le_of_ble_eq_true rfl⟩ (fun r hq => ?_)
    subst hq
    refine lv_if_ne (tgt := 23) hx hb d_M_space_17 (by decide) (fun c_17 => ?_) (fun c_17 => ?_)
    · refine lv_aload_n hx hb d_M_space_23 rfl (lv_at hl 0 rfl) ?_
      refine lv_iload_n hx hb d_M_space_24 rfl (lv_at hl 2 rfl) ?_
      refine lv_iconst (v := (1 : Int32)) hx hb d_M_space_25 (by decide) ?_
      refine xwv (As := [.int what, .int (1 : Int32)]) (rest := []) Sx (cm_findLosses l D a cI cZ N K B Q hN hKK hC hDr Z what (1 : Int32)) v_M_findLosses ⟨rfl, rfl, Nat.le_of_ble_eq_true rfl, Nat.le_of_ble_eq_true rfl⟩ hK hP (ci := 1) (q0 := 0) rfl rfl (wM_D hD) hS (fun _ h => h) rfl hl.1 rfl (Nat.le_of_ble_eq_true rfl) d_M_space_26 ⟨Nat.le_of_ble_eq_true rfl, Nat.le_of_ble_eq_true rfl⟩ (fun u H locs hu hP hS => ?_)
      subst hu
      have hP : va_P D classes (wM a cI cZ (nI N) (nI K) B (m_findLosses N K B Q what (1 : Int32))) H := hP
      refine lv_aload_n hx hb d_M_space_29 rfl (lv_at hl 0 rfl) ?_
      refine lv_iload_n hx hb d_M_space_30 rfl (lv_at hl 1 rfl) ?_
      refine lv_iload_n hx hb d_M_space_31 rfl (lv_at hl 2 rfl) ?_
      refine xro (As := [.int x, .int what]) (rest := []) Sx (cm_greatest l D a cI cZ N K B (m_findLosses N K B Q what (1 : Int32)) hN hKK hC hDr x what (isSpaceM_j hN c_5) (in01 c_17)) v_M_greatest ⟨rfl, rfl, Nat.le_of_ble_eq_true rfl, Nat.le_of_ble_eq_true rfl⟩ hK hP (ci := 1) (q0 := 0) rfl rfl rfl hl.1 rfl (Nat.le_of_ble_eq_true rfl) d_M_space_32 ⟨Nat.le_of_ble_eq_true rfl, Nat.le_of_ble_eq_true rfl⟩ (fun r hq => ?_)
      subst hq
      exact wRet (u := m_findLosses N K B Q what (1 : Int32)) hx hb hr rfl hlk (show m_greatest N K B (m_findLosses N K B Q what (1 : Int32)) x what = (m_space N K B Q x what).1 ∧ m_findLosses N K B Q what (1 : Int32) = (m_space N K B Q x what).2 from by rw [m_space, if_neg c_5, if_neg c_17]; exact ⟨rfl, rfl⟩) hP hK hS d_M_space_35
    · refine lv_bipush (v := (-3 : Int32)) hx hb d_M_space_20 (by decide) ?_
      exact wRet (u := Q) hx hb hr rfl hlk (show (-3 : Int32) = (m_space N K B Q x what).1 ∧ Q = (m_space N K B Q x what).2 from by rw [m_space, if_neg c_5, if_pos c_17]; exact ⟨rfl, rfl⟩) hP hK hS d_M_space_22
  · refine lv_bipush (v := (-2 : Int32)) hx hb d_M_space_8 (by decide) ?_
    exact wRet (u := Q) hx hb hr rfl hlk (show (-2 : Int32) = (m_space N K B Q x what).1 ∧ Q = (m_space N K B Q x what).2 from by rw [m_space, if_pos c_5]; exact ⟨rfl, rfl⟩) hP hK hS d_M_space_10

def m_loses (N : Nat) (K : Nat) (B : Nat → Nat → Int32) (Q : Nat → Nat → Int32) (src t what : Int32) : Int32 × (Nat → Nat → Int32) := (if (m_isSpace N K B Q src) = (0 : Int32) then ((-2 : Int32), Q) else (if (m_isSpace N K B Q t) = (0 : Int32) then ((-2 : Int32), Q) else (if (m_in what (0 : Int32) (1 : Int32)) = (0 : Int32) then ((-3 : Int32), Q) else (if ((m_findLosses N K B Q what (1 : Int32)) 2 (((30 : Int32) * src) + t).toNatClampNeg) < (1000 : Int32) then ((m_findLosses N K B Q what (1 : Int32)) 2 (((30 : Int32) * src) + t).toNatClampNeg, m_findLosses N K B Q what (1 : Int32)) else ((-1 : Int32), m_findLosses N K B Q what (1 : Int32))))))
set_option maxHeartbeats 4000000 in
set_option maxRecDepth 100000 in
theorem cm_loses (l : Launch) (D : va_G) (a : Nat → Nat) (cI cZ : ClassId) (N K : Nat) (B Q : Nat → Nat → Int32) (hN : N ≤ 30) (hKK : K ≤ 10) (hC : chs N B) (hDr : drM N K B) (Z : Nat → Prop) (src t what : Int32) : Met l y_M_loses (Cond.code y_M_loses b_M_loses 4 (some .int) :: BW) ({ frames := 6, cells := 0, slots := 0, locals := 134 } : Room) (PcW D Z (wM a cI cZ (nI N) (nI K) B Q) (tM cI cZ) [.ref (a 0), .int src, .int t, .int what]) (va_Qi (fun r u => r = (m_loses N K B Q src t what).1 ∧ u = (m_loses N K B Q src t what).2) (atW D (fun u => wM a cI cZ (nI N) (nI K) B u) (tM cI cZ)) Z) 0 0 Z := by
  refine wStart (by decide) rfl (Nat.le_of_ble_eq_true rfl) (fun p e s m below meth c Sx hr hlk hP hK hD hS ls hl => ?_)
  obtain ⟨hx, hb, hml, hown, hts⟩ := id Sx
  have hl : lv_has ls 4 [(0, .ref (a 0)), (1, .int src), (2, .int t), (3, .int what)] := hl
  refine lv_aload_n hx hb d_M_loses_0 rfl (lv_at hl 0 rfl) ?_
  refine lv_iload_n hx hb d_M_loses_1 rfl (lv_at hl 1 rfl) ?_
  refine xro (As := [.int src]) (rest := []) Sx (cm_isSpace l D a cI cZ N K B Q hN hKK hC hDr src) v_M_isSpace ⟨rfl, rfl, Nat.le_of_ble_eq_true rfl, Nat.le_of_ble_eq_true rfl⟩ hK hP (ci := 1) (q0 := 0) rfl rfl rfl hl.1 rfl (Nat.le_of_ble_eq_true rfl) d_M_loses_2 ⟨Nat.le_of_ble_eq_true rfl, Nat.le_of_ble_eq_true rfl⟩ (fun r hq => ?_)
  subst hq
  refine lv_if_eq (tgt := 16) hx hb d_M_loses_5 (by decide) (fun c_5 => ?_) (fun c_5 => ?_)
  · refine lv_bipush (v := (-2 : Int32)) hx hb d_M_loses_16 (by decide) ?_
    exact wRet (u := Q) hx hb hr rfl hlk (show (-2 : Int32) = (m_loses N K B Q src t what).1 ∧ Q = (m_loses N K B Q src t what).2 from by rw [m_loses, if_pos c_5]; exact ⟨rfl, rfl⟩) hP hK hS d_M_loses_18
  · refine lv_aload_n hx hb d_M_loses_8 rfl (lv_at hl 0 rfl) ?_
    refine lv_iload_n hx hb d_M_loses_9 rfl (lv_at hl 2 rfl) ?_
    refine xro (As := [.int t]) (rest := []) Sx (cm_isSpace l D a cI cZ N K B Q hN hKK hC hDr t) v_M_isSpace ⟨rfl, rfl, Nat.le_of_ble_eq_true rfl, Nat.le_of_ble_eq_true rfl⟩ hK hP (ci := 1) (q0 := 0) rfl rfl rfl hl.1 rfl (Nat.le_of_ble_eq_true rfl) d_M_loses_10 ⟨Nat.le_of_ble_eq_true rfl, Nat.le_of_ble_eq_true rfl⟩ (fun r hq => ?_)
    subst hq
    refine lv_if_ne (tgt := 19) hx hb d_M_loses_13 (by decide) (fun c_13 => ?_) (fun c_13 => ?_)
    · refine lv_iload_n hx hb d_M_loses_19 rfl (lv_at hl 3 rfl) ?_
      refine lv_iconst (v := (0 : Int32)) hx hb d_M_loses_20 (by decide) ?_
      refine lv_iconst (v := (1 : Int32)) hx hb d_M_loses_21 (by decide) ?_
      refine xst (As := [.int what, .int (0 : Int32), .int (1 : Int32)]) (rest := []) Sx (cm_in l what (0 : Int32) (1 : Int32)) v_M_in ⟨rfl, rfl, Nat.le_of_ble_eq_true rfl, Nat.le_of_ble_eq_true rfl⟩ rfl hl.1 rfl (Nat.le_of_ble_eq_true rfl) d_M_loses_22 ⟨Nat.le_of_ble_eq_true rfl, Nat.le_of_ble_eq_true rfl⟩ (fun r hq => ?_)
      subst hq
      refine lv_if_ne (tgt := 31) hx hb d_M_loses_25 (by decide) (fun c_25 => ?_) (fun c_25 => ?_)
      · refine lv_aload_n hx hb d_M_loses_31 rfl (lv_at hl 0 rfl) ?_
        refine lv_iload_n hx hb d_M_loses_32 rfl (lv_at hl 3 rfl) ?_
        refine lv_iconst (v := (1 : Int32)) hx hb d_M_loses_33 (by decide) ?_
        refine xwv (As := [.int what, .int (1 : Int32)]) (rest := []) Sx (cm_findLosses l D a cI cZ N K B Q hN hKK hC hDr Z what (1 : Int32)) v_M_findLosses ⟨rfl, rfl, Nat.le_of_ble_eq_true rfl, Nat.le_of_ble_eq_true rfl⟩ hK hP (ci := 1) (q0 := 0) rfl rfl (wM_D hD) hS (fun _ h => h) rfl hl.1 rfl (Nat.le_of_ble_eq_true rfl) d_M_loses_34 ⟨Nat.le_of_ble_eq_true rfl, Nat.le_of_ble_eq_true rfl⟩ (fun u H locs hu hP hS => ?_)
        subst hu
        have hP : va_P D classes (wM a cI cZ (nI N) (nI K) B (m_findLosses N K B Q what (1 : Int32))) H := hP
        refine lv_aload_n hx hb d_M_loses_37 rfl (lv_at hl 0 rfl) ?_
        refine va_get (D := D) (ci := 1) (v := .ref (a 10)) (C := R_M) (T := F_M) (N := 16) hx hb hts i_M hown hK hP 0 rfl rfl 13 (by decide) (hts _ fl_M_37) (fun _ h9 => h9) rfl d_M_loses_38 ?_
        refine lv_bipush (v := (30 : Int32)) hx hb d_M_loses_41 (by decide) ?_
        refine lv_iload_n hx hb d_M_loses_43 rfl (lv_at hl 1 rfl) ?_
        refine lv_imul hx hb d_M_loses_44 ?_
        refine lv_iload_n hx hb d_M_loses_45 rfl (lv_at hl 2 rfl) ?_
        refine lv_iadd hx hb d_M_loses_46 ?_
        refine va_iald (n := 900) hx hb hK hP 10 0 rfl rfl (ls_in hN (isSpaceM_j hN c_5) (isSpaceM_j hN c_13)) d_M_loses_47 ?_
        refine lv_sipush (v := (1000 : Int32)) hx hb d_M_loses_48 (by decide) ?_
        refine lv_icmp_lt (tgt := 58) hx hb d_M_loses_51 (by decide) (fun c_51 => ?_) (fun c_51 => ?_)
        · refine lv_aload_n hx hb d_M_loses_58 rfl (lv_at hl 0 rfl) ?_
          refine va_get (D := D) (ci := 1) (v := .ref (a 10)) (C := R_M) (T := F_M) (N := 16) hx hb hts i_M hown hK hP 0 rfl rfl 13 (by decide) (hts _ fl_M_37) (fun _ h9 => h9) rfl d_M_loses_59 ?_
          refine lv_bipush (v := (30 : Int32)) hx hb d_M_loses_62 (by decide) ?_
          refine lv_iload_n hx hb d_M_loses_64 rfl (lv_at hl 1 rfl) ?_
          refine lv_imul hx hb d_M_loses_65 ?_
          refine lv_iload_n hx hb d_M_loses_66 rfl (lv_at hl 2 rfl) ?_
          refine lv_iadd hx hb d_M_loses_67 ?_
          refine va_iald (n := 900) hx hb hK hP 10 0 rfl rfl (ls_in hN (isSpaceM_j hN c_5) (isSpaceM_j hN c_13)) d_M_loses_68 ?_
          exact wRet (u := m_findLosses N K B Q what (1 : Int32)) hx hb hr rfl hlk (show (m_findLosses N K B Q what (1 : Int32)) 2 (((30 : Int32) * src) + t).toNatClampNeg = (m_loses N K B Q src t what).1 ∧ m_findLosses N K B Q what (1 : Int32) = (m_loses N K B Q src t what).2 from by rw [m_loses, if_neg c_5, if_neg c_13, if_neg c_25, if_pos c_51]; exact ⟨rfl, rfl⟩) hP hK hS d_M_loses_69
        · refine lv_iconst (v := (-1 : Int32)) hx hb d_M_loses_54 (by decide) ?_
          refine lv_goto (tgt := 69) hx hb d_M_loses_55 (by decide) ?_
          exact wRet (u := m_findLosses N K B Q what (1 : Int32)) hx hb hr rfl hlk (show (-1 : Int32) = (m_loses N K B Q src t what).1 ∧ m_findLosses N K B Q what (1 : Int32) = (m_loses N K B Q src t what).2 from by rw [m_loses, if_neg c_5, if_neg c_13, if_neg c_25, if_neg c_51]; exact ⟨rfl, rfl⟩) hP hK hS d_M_loses_69
      · refine lv_bipush (v := (-3 : Int32)) hx hb d_M_loses_28 (by decide) ?_
        exact wRet (u := Q) hx hb hr rfl hlk (show (-3 : Int32) = (m_loses N K B Q src t what).1 ∧ Q = (m_loses N K B Q src t what).2 from by rw [m_loses, if_neg c_5, if_neg c_13, if_pos c_25]; exact ⟨rfl, rfl⟩) hP hK hS d_M_loses_30
    · refine lv_bipush (v := (-2 : Int32)) hx hb d_M_loses_16 (by decide) ?_
      exact wRet (u := Q) hx hb hr rfl hlk (show (-2 : Int32) = (m_loses N K B Q src t what).1 ∧ Q = (m_loses N K B Q src t what).2 from by rw [m_loses, if_neg c_5, if_pos c_13]; exact ⟨rfl, rfl⟩) hP hK hS d_M_loses_18

def m_sees (N : Nat) (K : Nat) (B : Nat → Nat → Int32) (Q : Nat → Nat → Int32) (who x : Int32) : Int32 × (Nat → Nat → Int32) := (if (m_isOf N K B Q who (3 : Int32)) = (0 : Int32) then ((-2 : Int32), Q) else (if (m_isThing N K B Q x) = (0 : Int32) then ((-2 : Int32), Q) else (if (m_isSeen N K B (m_looks N K B Q) who x) = (0 : Int32) then ((0 : Int32), m_looks N K B Q) else ((1 : Int32), m_looks N K B Q))))
set_option maxHeartbeats 4000000 in
set_option maxRecDepth 100000 in
theorem cm_sees (l : Launch) (D : va_G) (a : Nat → Nat) (cI cZ : ClassId) (N K : Nat) (B Q : Nat → Nat → Int32) (hN : N ≤ 30) (hKK : K ≤ 10) (hC : chs N B) (hDr : drM N K B) (Z : Nat → Prop) (who x : Int32) : Met l y_M_sees (Cond.code y_M_sees b_M_sees 3 (some .int) :: BW) ({ frames := 7, cells := 0, slots := 0, locals := 155 } : Room) (PcW D Z (wM a cI cZ (nI N) (nI K) B Q) (tM cI cZ) [.ref (a 0), .int who, .int x]) (va_Qi (fun r u => r = (m_sees N K B Q who x).1 ∧ u = (m_sees N K B Q who x).2) (atW D (fun u => wM a cI cZ (nI N) (nI K) B u) (tM cI cZ)) Z) 0 0 Z := by
  refine wStart (by decide) rfl (Nat.le_of_ble_eq_true rfl) (fun p e s m below meth c Sx hr hlk hP hK hD hS ls hl => ?_)
  obtain ⟨hx, hb, hml, hown, hts⟩ := id Sx
  have hl : lv_has ls 3 [(0, .ref (a 0)), (1, .int who), (2, .int x)] := hl
  refine lv_aload_n hx hb d_M_sees_0 rfl (lv_at hl 0 rfl) ?_
  refine lv_iload_n hx hb d_M_sees_1 rfl (lv_at hl 1 rfl) ?_
  refine lv_iconst (v := (3 : Int32)) hx hb d_M_sees_2 (by decide) ?_
  refine xro (As := [.int who, .int (3 : Int32)]) (rest := []) Sx (cm_isOf l D a cI cZ N K B Q hN hKK hC hDr who (3 : Int32)) v_M_isOf ⟨rfl, rfl, Nat.le_of_ble_eq_true rfl, Nat.le_of_ble_eq_true rfl⟩ hK hP (ci := 1) (q0 := 0) rfl rfl rfl hl.1 rfl (Nat.le_of_ble_eq_true rfl) d_M_sees_3 ⟨Nat.le_of_ble_eq_true rfl, Nat.le_of_ble_eq_true rfl⟩ (fun r hq => ?_)
  subst hq
  refine lv_if_eq (tgt := 17) hx hb d_M_sees_6 (by decide) (fun c_6 => ?_) (fun c_6 => ?_)
  · refine lv_bipush (v := (-2 : Int32)) hx hb d_M_sees_17 (by decide) ?_
    exact wRet (u := Q) hx hb hr rfl hlk (show (-2 : Int32) = (m_sees N K B Q who x).1 ∧ Q = (m_sees N K B Q who x).2 from by rw [m_sees, if_pos c_6]; exact ⟨rfl, rfl⟩) hP hK hS d_M_sees_19
  · refine lv_aload_n hx hb d_M_sees_9 rfl (lv_at hl 0 rfl) ?_
    refine lv_iload_n hx hb d_M_sees_10 rfl (lv_at hl 2 rfl) ?_
    refine xro (As := [.int x]) (rest := []) Sx (cm_isThing l D a cI cZ N K B Q hN hKK hC hDr x) v_M_isThing ⟨rfl, rfl, Nat.le_of_ble_eq_true rfl, Nat.le_of_ble_eq_true rfl⟩ hK hP (ci := 1) (q0 := 0) rfl rfl rfl hl.1 rfl (Nat.le_of_ble_eq_true rfl) d_M_sees_11 ⟨Nat.le_of_ble_eq_true rfl, Nat.le_of_ble_eq_true rfl⟩ (fun r hq => ?_)
    subst hq
    refine lv_if_ne (tgt := 20) hx hb d_M_sees_14 (by decide) (fun c_14 => ?_) (fun c_14 => ?_)
    · refine lv_aload_n hx hb d_M_sees_20 rfl (lv_at hl 0 rfl) ?_
      refine xwv (As := []) (rest := []) Sx (cm_looks l D a cI cZ N K B Q hN hKK hC hDr Z) v_M_looks ⟨rfl, rfl, Nat.le_of_ble_eq_true rfl, Nat.le_of_ble_eq_true rfl⟩ hK hP (ci := 1) (q0 := 0) rfl rfl (wM_D hD) hS (fun _ h => h) rfl hl.1 rfl (Nat.le_of_ble_eq_true rfl) d_M_sees_21 ⟨Nat.le_of_ble_eq_true rfl, Nat.le_of_ble_eq_true rfl⟩ (fun u H locs hu hP hS => ?_)
      subst hu
      have hP : va_P D classes (wM a cI cZ (nI N) (nI K) B (m_looks N K B Q)) H := hP
      refine lv_aload_n hx hb d_M_sees_24 rfl (lv_at hl 0 rfl) ?_
      refine lv_iload_n hx hb d_M_sees_25 rfl (lv_at hl 1 rfl) ?_
      refine lv_iload_n hx hb d_M_sees_26 rfl (lv_at hl 2 rfl) ?_
      refine xro (As := [.int who, .int x]) (rest := []) Sx (cm_isSeen l D a cI cZ N K B (m_looks N K B Q) hN hKK hC hDr who x (isOfM_j hN c_6) (isThingM_j hN c_14) (looks_01)) v_M_isSeen ⟨rfl, rfl, Nat.le_of_ble_eq_true rfl, Nat.le_of_ble_eq_true rfl⟩ hK hP (ci := 1) (q0 := 0) rfl rfl rfl hl.1 rfl (Nat.le_of_ble_eq_true rfl) d_M_sees_27 ⟨Nat.le_of_ble_eq_true rfl, Nat.le_of_ble_eq_true rfl⟩ (fun r hq => ?_)
      subst hq
      refine lv_if_eq (tgt := 37) hx hb d_M_sees_30 (by decide) (fun c_30 => ?_) (fun c_30 => ?_)
      · refine lv_iconst (v := (0 : Int32)) hx hb d_M_sees_37 (by decide) ?_
        exact wRet (u := m_looks N K B Q) hx hb hr rfl hlk (show (0 : Int32) = (m_sees N K B Q who x).1 ∧ m_looks N K B Q = (m_sees N K B Q who x).2 from by rw [m_sees, if_neg c_6, if_neg c_14, if_pos c_30]; exact ⟨rfl, rfl⟩) hP hK hS d_M_sees_38
      · refine lv_iconst (v := (1 : Int32)) hx hb d_M_sees_33 (by decide) ?_
        refine lv_goto (tgt := 38) hx hb d_M_sees_34 (by decide) ?_
        exact wRet (u := m_looks N K B Q) hx hb hr rfl hlk (show (1 : Int32) = (m_sees N K B Q who x).1 ∧ m_looks N K B Q = (m_sees N K B Q who x).2 from by rw [m_sees, if_neg c_6, if_neg c_14, if_neg c_30]; exact ⟨rfl, rfl⟩) hP hK hS d_M_sees_38
    · refine lv_bipush (v := (-2 : Int32)) hx hb d_M_sees_17 (by decide) ?_
      exact wRet (u := Q) hx hb hr rfl hlk (show (-2 : Int32) = (m_sees N K B Q who x).1 ∧ Q = (m_sees N K B Q who x).2 from by rw [m_sees, if_neg c_6, if_pos c_14]; exact ⟨rfl, rfl⟩) hP hK hS d_M_sees_19

def m_barrier (N : Nat) (K : Nat) (B : Nat → Nat → Int32) (Q : Nat → Nat → Int32) (who x : Int32) : Int32 × (Nat → Nat → Int32) := (if (m_isOf N K B Q who (3 : Int32)) = (0 : Int32) then ((-2 : Int32), Q) else (if (m_isThing N K B Q x) = (0 : Int32) then ((-2 : Int32), Q) else (if who = x then ((-1 : Int32), Q) else (if ((m_findWay N K B Q who x).1) = (0 : Int32) then ((-5 : Int32), (m_findWay N K B Q who x).2) else (m_firstBarrier N K B ((m_findWay N K B Q who x).2), (m_findWay N K B Q who x).2)))))
set_option maxHeartbeats 4000000 in
set_option maxRecDepth 100000 in
theorem cm_barrier (l : Launch) (D : va_G) (a : Nat → Nat) (cI cZ : ClassId) (N K : Nat) (B Q : Nat → Nat → Int32) (hN : N ≤ 30) (hKK : K ≤ 10) (hC : chs N B) (hDr : drM N K B) (Z : Nat → Prop) (who x : Int32) : Met l y_M_barrier (Cond.code y_M_barrier b_M_barrier 3 (some .int) :: BW) ({ frames := 3, cells := 0, slots := 0, locals := 65 } : Room) (PcW D Z (wM a cI cZ (nI N) (nI K) B Q) (tM cI cZ) [.ref (a 0), .int who, .int x]) (va_Qi (fun r u => r = (m_barrier N K B Q who x).1 ∧ u = (m_barrier N K B Q who x).2) (atW D (fun u => wM a cI cZ (nI N) (nI K) B u) (tM cI cZ)) Z) 0 0 Z := by
  refine wStart (by decide) rfl (Nat.le_of_ble_eq_true rfl) (fun p e s m below meth c Sx hr hlk hP hK hD hS ls hl => ?_)
  obtain ⟨hx, hb, hml, hown, hts⟩ := id Sx
  have hl : lv_has ls 3 [(0, .ref (a 0)), (1, .int who), (2, .int x)] := hl
  refine lv_aload_n hx hb d_M_barrier_0 rfl (lv_at hl 0 rfl) ?_
  refine lv_iload_n hx hb d_M_barrier_1 rfl (lv_at hl 1 rfl) ?_
  refine lv_iconst (v := (3 : Int32)) hx hb d_M_barrier_2 (by decide) ?_
  refine xro (As := [.int who, .int (3 : Int32)]) (rest := []) Sx (cm_isOf l D a cI cZ N K B Q hN hKK hC hDr who (3 : Int32)) v_M_isOf ⟨rfl, rfl, Nat.le_of_ble_eq_true rfl, Nat.le_of_ble_eq_true rfl⟩ hK hP (ci := 1) (q0 := 0) rfl rfl rfl hl.1 rfl (Nat.le_of_ble_eq_true rfl) d_M_barrier_3 ⟨Nat.le_of_ble_eq_true rfl, Nat.le_of_ble_eq_true rfl⟩ (fun r hq => ?_)
  subst hq
  refine lv_if_eq (tgt := 17) hx hb d_M_barrier_6 (by decide) (fun c_6 => ?_) (fun c_6 => ?_)
  · refine lv_bipush (v := (-2 : Int32)) hx hb d_M_barrier_17 (by decide) ?_
    exact wRet (u := Q) hx hb hr rfl hlk (show (-2 : Int32) = (m_barrier N K B Q who x).1 ∧ Q = (m_barrier N K B Q who x).2 from by rw [m_barrier, if_pos c_6]; exact ⟨rfl, rfl⟩) hP hK hS d_M_barrier_19
  · refine lv_aload_n hx hb d_M_barrier_9 rfl (lv_at hl 0 rfl) ?_
    refine lv_iload_n hx hb d_M_barrier_10 rfl (lv_at hl 2 rfl) ?_
    refine xro (As := [.int x]) (rest := []) Sx (cm_isThing l D a cI cZ N K B Q hN hKK hC hDr x) v_M_isThing ⟨rfl, rfl, Nat.le_of_ble_eq_true rfl, Nat.le_of_ble_eq_true rfl⟩ hK hP (ci := 1) (q0 := 0) rfl rfl rfl hl.1 rfl (Nat.le_of_ble_eq_true rfl) d_M_barrier_11 ⟨Nat.le_of_ble_eq_true rfl, Nat.le_of_ble_eq_true rfl⟩ (fun r hq => ?_)
    subst hq
    refine lv_if_ne (tgt := 20) hx hb d_M_barrier_14 (by decide) (fun c_14 => ?_) (fun c_14 => ?_)
    · refine lv_iload_n hx hb d_M_barrier_20 rfl (lv_at hl 1 rfl) ?_
      refine lv_iload_n hx hb d_M_barrier_21 rfl (lv_at hl 2 rfl) ?_
      refine lv_icmp_ne (tgt := 27) hx hb d_M_barrier_22 (by decide) (fun c_22 => ?_) (fun c_22 => ?_)
      · refine lv_aload_n hx hb d_M_barrier_27 rfl (lv_at hl 0 rfl) ?_
        refine lv_iload_n hx hb d_M_barrier_28 rfl (lv_at hl 1 rfl) ?_
        refine lv_iload_n hx hb d_M_barrier_29 rfl (lv_at hl 2 rfl) ?_
        refine xwi (As := [.int who, .int x]) (rest := []) Sx (cm_findWay l D a cI cZ N K B Q hN hKK hC hDr Z who x (isOfM_j hN c_6) (isThingM_j hN c_14)) v_M_findWay ⟨rfl, rfl, Nat.le_of_ble_eq_true rfl, Nat.le_of_ble_eq_true rfl⟩ hK hP (ci := 1) (q0 := 0) rfl rfl (wM_D hD) hS (fun _ h => h) rfl hl.1 rfl (Nat.le_of_ble_eq_true rfl) d_M_barrier_30 ⟨Nat.le_of_ble_eq_true rfl, Nat.le_of_ble_eq_true rfl⟩ (fun r u H locs hu hP hS => ?_)
        obtain ⟨rfl, rfl⟩ := hu
        have hP : va_P D classes (wM a cI cZ (nI N) (nI K) B ((m_findWay N K B Q who x).2)) H := hP
        refine lv_if_eq (tgt := 43) hx hb d_M_barrier_33 (by decide) (fun c_33 => ?_) (fun c_33 => ?_)
        · refine lv_bipush (v := (-5 : Int32)) hx hb d_M_barrier_43 (by decide) ?_
          exact wRet (u := (m_findWay N K B Q who x).2) hx hb hr rfl hlk (show (-5 : Int32) = (m_barrier N K B Q who x).1 ∧ (m_findWay N K B Q who x).2 = (m_barrier N K B Q who x).2 from by rw [m_barrier, if_neg c_6, if_neg c_14, if_neg c_22, if_pos c_33]; exact ⟨rfl, rfl⟩) hP hK hS d_M_barrier_45
        · refine lv_aload_n hx hb d_M_barrier_36 rfl (lv_at hl 0 rfl) ?_
          refine xro (As := []) (rest := []) Sx (cm_firstBarrier l D a cI cZ N K B ((m_findWay N K B Q who x).2) hN hKK hC hDr ((findWay_ok (K := K) (Q := Q) hN hC (isOfM_j hN c_6) (isThingM_j hN c_14)).1) ((findWay_ok (K := K) (Q := Q) hN hC (isOfM_j hN c_6) (isThingM_j hN c_14)).2.1) ((findWay_ok (K := K) (Q := Q) hN hC (isOfM_j hN c_6) (isThingM_j hN c_14)).2.2.1) ((findWay_ok (K := K) (Q := Q) hN hC (isOfM_j hN c_6) (isThingM_j hN c_14)).2.2.2.1) ((findWay_ok (K := K) (Q := Q) hN hC (isOfM_j hN c_6) (isThingM_j hN c_14)).2.2.2.2.1) ((findWay_ok (K := K) (Q := Q) hN hC (isOfM_j hN c_6) (isThingM_j hN c_14)).2.2.2.2.2)) v_M_firstBarrier ⟨rfl, rfl, Nat.le_of_ble_eq_true rfl, Nat.le_of_ble_eq_true rfl⟩ hK hP (ci := 1) (q0 := 0) rfl rfl rfl hl.1 rfl (Nat.le_of_ble_eq_true rfl) d_M_barrier_37 ⟨Nat.le_of_ble_eq_true rfl, Nat.le_of_ble_eq_true rfl⟩ (fun r hq => ?_)
          subst hq
          refine lv_goto (tgt := 45) hx hb d_M_barrier_40 (by decide) ?_
          exact wRet (u := (m_findWay N K B Q who x).2) hx hb hr rfl hlk (show m_firstBarrier N K B ((m_findWay N K B Q who x).2) = (m_barrier N K B Q who x).1 ∧ (m_findWay N K B Q who x).2 = (m_barrier N K B Q who x).2 from by rw [m_barrier, if_neg c_6, if_neg c_14, if_neg c_22, if_neg c_33]; exact ⟨rfl, rfl⟩) hP hK hS d_M_barrier_45
      · refine lv_iconst (v := (-1 : Int32)) hx hb d_M_barrier_25 (by decide) ?_
        exact wRet (u := Q) hx hb hr rfl hlk (show (-1 : Int32) = (m_barrier N K B Q who x).1 ∧ Q = (m_barrier N K B Q who x).2 from by rw [m_barrier, if_neg c_6, if_neg c_14, if_pos c_22]; exact ⟨rfl, rfl⟩) hP hK hS d_M_barrier_26
    · refine lv_bipush (v := (-2 : Int32)) hx hb d_M_barrier_17 (by decide) ?_
      exact wRet (u := Q) hx hb hr rfl hlk (show (-2 : Int32) = (m_barrier N K B Q who x).1 ∧ Q = (m_barrier N K B Q who x).2 from by rw [m_barrier, if_neg c_6, if_pos c_14]; exact ⟨rfl, rfl⟩) hP hK hS d_M_barrier_19

def m_scope_21 (N : Nat) (K : Nat) (B : Nat → Nat → Int32) (who : Int32) (ix : Int32) : Nat → Nat → (Nat → Nat → Int32) → Int32 → Int32 × (Nat → Nat → Int32)
  | 0, i, Q1, v3 => ((-1 : Int32), Q1)
  | k + 1, i, Q1, v3 => (if ix < (0 : Int32) then ((-1 : Int32), Q1) else (if (nI i) = who then m_scope_21 N K B who ix k (i + 1) Q1 v3 else (if (m_isSeen N K B Q1 who (nI i)) = (0 : Int32) then (if ((m_isReached N K B Q1 who (nI i)).1) = (0 : Int32) then m_scope_21 N K B who ix k (i + 1) ((m_isReached N K B Q1 who (nI i)).2) v3 else (if v3 = (0 : Int32) then (nI i, (m_isReached N K B Q1 who (nI i)).2) else m_scope_21 N K B who ix k (i + 1) ((m_isReached N K B Q1 who (nI i)).2) (v3 + (-1 : Int32)))) else (if v3 = (0 : Int32) then (nI i, Q1) else m_scope_21 N K B who ix k (i + 1) Q1 (v3 + (-1 : Int32))))))
theorem m_scope_21_0 (N : Nat) (K : Nat) (B : Nat → Nat → Int32) (who : Int32) (ix : Int32) (i : Nat) (Q1 : (Nat → Nat → Int32)) (v3 : Int32) : m_scope_21 N K B who ix 0 i Q1 v3 = ((-1 : Int32), Q1) := rfl
theorem m_scope_21_S (N : Nat) (K : Nat) (B : Nat → Nat → Int32) (who : Int32) (ix : Int32) (k : Nat) (i : Nat) (Q1 : (Nat → Nat → Int32)) (v3 : Int32) : m_scope_21 N K B who ix (k + 1) i Q1 v3 = (if ix < (0 : Int32) then ((-1 : Int32), Q1) else (if (nI i) = who then m_scope_21 N K B who ix k (i + 1) Q1 v3 else (if (m_isSeen N K B Q1 who (nI i)) = (0 : Int32) then (if ((m_isReached N K B Q1 who (nI i)).1) = (0 : Int32) then m_scope_21 N K B who ix k (i + 1) ((m_isReached N K B Q1 who (nI i)).2) v3 else (if v3 = (0 : Int32) then (nI i, (m_isReached N K B Q1 who (nI i)).2) else m_scope_21 N K B who ix k (i + 1) ((m_isReached N K B Q1 who (nI i)).2) (v3 + (-1 : Int32)))) else (if v3 = (0 : Int32) then (nI i, Q1) else m_scope_21 N K B who ix k (i + 1) Q1 (v3 + (-1 : Int32)))))) := rfl
set_option maxHeartbeats 4000000 in
set_option maxRecDepth 100000 in
theorem wm_scope_21 (l : Launch) (D : va_G) (a : Nat → Nat) (cI cZ : ClassId) (N K : Nat) (B Q : Nat → Nat → Int32) (hN : N ≤ 30) (hKK : K ≤ 10) (hC : chs N B) (hDr : drM N K B) (Z : Nat → Prop) (who : Int32) (ix : Int32) (hw : ∃ j : Nat, j < N ∧ who = nI j) {p : Program} {e : Env} {s : State} {m : MethodId} {below : List Frame} {meth : Method} {c : Code} (Sx : CallFix p m c b_M_scope 5 s ([.ref (a 0), .int who, .int ix] : List Value).toArray BW R_M) (hr : meth.sig.returnType = (some .int)) (hlk : meth.locks = false) (hD : va_D Z (wM a cI cZ (nI N) (nI K) B Q)) (hK : va_K D classes (tM cI cZ) s) : ∀ (k i : Nat), i + k = N → ∀ (Q1 : (Nat → Nat → Int32)) (v3 : Int32) (H : Heap) (locs : List Loc) (ls : Array Slot), q01 Q1 → va_P D classes (wM a cI cZ (nI N) (nI K) B Q1) H → va_S Z s.heap H locs → lv_has ls 5 [(0, .ref (a 0)), (1, .int who), (2, .int ix), (3, .int v3), (4, .int (nI i))] → W p l e ({ frames := 7, cells := 0, slots := 0, locals := 155 } : Room) s m ([.ref (a 0), .int who, .int ix] : List Value).toArray below meth c H locs 0 0 (MQ below (va_Qi (fun r u => r = (m_scope_21 N K B who ix k i Q1 v3).1 ∧ u = (m_scope_21 N K B who ix k i Q1 v3).2) (atW D (fun u => wM a cI cZ (nI N) (nI K) B u) (tM cI cZ)) Z) ([.ref (a 0), .int who, .int ix] : List Value).toArray s 0 0 Z) (F0 m 21 ls []) := by
  obtain ⟨hx, hb, hml, hown, hts⟩ := id Sx
  intro k
  induction k with
  | zero =>
    intro i hi Q1 v3 H locs ls hv hP hS hl
    refine lv_iload hx hb d_M_scope_21 (lv_at hl 4 rfl) ?_
    refine lv_aload_n hx hb d_M_scope_23 rfl (lv_at hl 0 rfl) ?_
    refine va_get (D := D) (ci := 1) (v := .int (nI N)) (C := R_M) (T := F_M) (N := 16) hx hb hts i_M hown hK hP 0 rfl rfl 0 (by decide) (hts _ fl_M_47) (fun _ h9 => h9) rfl d_M_scope_24 ?_
    refine lv_icmp_ge (tgt := 76) hx hb d_M_scope_27 (by decide) (fun c_27 => ?_) (fun c_27 => absurd (nI_le (a := N) (b := i) (by omega) (by omega)) c_27)
    refine lv_iconst (v := (-1 : Int32)) hx hb d_M_scope_76 (by decide) ?_
    exact wRet (u := Q1) hx hb hr rfl hlk (show (-1 : Int32) = (m_scope_21 N K B who ix 0 i Q1 v3).1 ∧ Q1 = (m_scope_21 N K B who ix 0 i Q1 v3).2 from by rw [m_scope_21_0]; exact ⟨rfl, rfl⟩) hP hK hS d_M_scope_77
  | succ k ih =>
    intro i hi Q1 v3 H locs ls hv hP hS hl
    refine lv_iload hx hb d_M_scope_21 (lv_at hl 4 rfl) ?_
    refine lv_aload_n hx hb d_M_scope_23 rfl (lv_at hl 0 rfl) ?_
    refine va_get (D := D) (ci := 1) (v := .int (nI N)) (C := R_M) (T := F_M) (N := 16) hx hb hts i_M hown hK hP 0 rfl rfl 0 (by decide) (hts _ fl_M_47) (fun _ h9 => h9) rfl d_M_scope_24 ?_
    refine lv_icmp_ge (tgt := 76) hx hb d_M_scope_27 (by decide) (fun c_27 => absurd c_27 (nI_ge (a := i) (b := N) (by omega) (by omega))) (fun c_27 => ?_)
    refine lv_iload_n hx hb d_M_scope_30 rfl (lv_at hl 2 rfl) ?_
    refine lv_if_lt (tgt := 76) hx hb d_M_scope_31 (by decide) (fun c_31 => ?_) (fun c_31 => ?_)
    · refine lv_iconst (v := (-1 : Int32)) hx hb d_M_scope_76 (by decide) ?_
      exact wRet (u := Q1) hx hb hr rfl hlk (show (-1 : Int32) = (m_scope_21 N K B who ix (k + 1) i Q1 v3).1 ∧ Q1 = (m_scope_21 N K B who ix (k + 1) i Q1 v3).2 from by rw [m_scope_21_S, if_pos c_31]; exact ⟨rfl, rfl⟩) hP hK hS d_M_scope_77
    · refine lv_iload hx hb d_M_scope_34 (lv_at hl 4 rfl) ?_
      refine lv_iload_n hx hb d_M_scope_36 rfl (lv_at hl 1 rfl) ?_
      refine lv_icmp_eq (tgt := 70) hx hb d_M_scope_37 (by decide) (fun c_37 => ?_) (fun c_37 => ?_)
      · refine lv_iinc (v := nI (i + 1)) (lv' := [(4, .int (nI (i + 1))), (0, .ref (a 0)), (1, .int who), (2, .int ix), (3, .int v3)]) hx hb d_M_scope_70 hl (k := 4) rfl (nI_1 i) (by decide) rfl (fun ls hl => ?_)
        refine lv_goto (tgt := 21) hx hb d_M_scope_73 (by decide) ?_
        have e_b : m_scope_21 N K B who ix (k + 1) i Q1 v3 = m_scope_21 N K B who ix k (i + 1) Q1 v3 := by rw [m_scope_21_S, if_neg c_31, if_pos c_37]
        rw [e_b]
        exact ih (i + 1) (by omega) Q1 v3 _ _ ls (by first | exact hv | exact isReached_01 hv) hP hS (lv_sub hl [1, 2, 3, 4, 0] rfl)
      · refine lv_aload_n hx hb d_M_scope_40 rfl (lv_at hl 0 rfl) ?_
        refine lv_iload_n hx hb d_M_scope_41 rfl (lv_at hl 1 rfl) ?_
        refine lv_iload hx hb d_M_scope_42 (lv_at hl 4 rfl) ?_
        refine xro (As := [.int who, .int (nI i)]) (rest := []) Sx (cm_isSeen l D a cI cZ N K B Q1 hN hKK hC hDr who (nI i) (hw) (⟨i, by omega, rfl⟩) (hv)) v_M_isSeen ⟨rfl, rfl, Nat.le_of_ble_eq_true rfl, Nat.le_of_ble_eq_true rfl⟩ hK hP (ci := 1) (q0 := 0) rfl rfl rfl hl.1 rfl (Nat.le_of_ble_eq_true rfl) d_M_scope_44 ⟨Nat.le_of_ble_eq_true rfl, Nat.le_of_ble_eq_true rfl⟩ (fun r hq => ?_)
        subst hq
        refine lv_if_ne (tgt := 60) hx hb d_M_scope_47 (by decide) (fun c_47 => ?_) (fun c_47 => ?_)
        · refine lv_iload_n hx hb d_M_scope_60 rfl (lv_at hl 3 rfl) ?_
          refine lv_if_ne (tgt := 67) hx hb d_M_scope_61 (by decide) (fun c_61 => ?_) (fun c_61 => ?_)
          · refine lv_iinc (v := v3 + (-1 : Int32)) (lv' := [(3, .int (v3 + (-1 : Int32))), (0, .ref (a 0)), (1, .int who), (2, .int ix), (4, .int (nI i))]) hx hb d_M_scope_67 hl (k := 3) rfl (by rfl) (by decide) rfl (fun ls hl => ?_)
            refine lv_iinc (v := nI (i + 1)) (lv' := [(4, .int (nI (i + 1))), (3, .int (v3 + (-1 : Int32))), (0, .ref (a 0)), (1, .int who), (2, .int ix)]) hx hb d_M_scope_70 hl (k := 4) rfl (nI_1 i) (by decide) rfl (fun ls hl => ?_)
            refine lv_goto (tgt := 21) hx hb d_M_scope_73 (by decide) ?_
            have e_b : m_scope_21 N K B who ix (k + 1) i Q1 v3 = m_scope_21 N K B who ix k (i + 1) Q1 (v3 + (-1 : Int32)) := by rw [m_scope_21_S, if_neg c_31, if_neg c_37, if_neg c_47, if_neg c_61]
            rw [e_b]
            exact ih (i + 1) (by omega) Q1 (v3 + (-1 : Int32)) _ _ ls (by first | exact hv | exact isReached_01 hv) hP hS (lv_sub hl [2, 3, 4, 1, 0] rfl)
          · refine lv_iload hx hb d_M_scope_64 (lv_at hl 4 rfl) ?_
            exact wRet (u := Q1) hx hb hr rfl hlk (show nI i = (m_scope_21 N K B who ix (k + 1) i Q1 v3).1 ∧ Q1 = (m_scope_21 N K B who ix (k + 1) i Q1 v3).2 from by rw [m_scope_21_S, if_neg c_31, if_neg c_37, if_neg c_47, if_pos c_61]; exact ⟨rfl, rfl⟩) hP hK hS d_M_scope_66
        · refine lv_aload_n hx hb d_M_scope_50 rfl (lv_at hl 0 rfl) ?_
          refine lv_iload_n hx hb d_M_scope_51 rfl (lv_at hl 1 rfl) ?_
          refine lv_iload hx hb d_M_scope_52 (lv_at hl 4 rfl) ?_
          refine xwi (As := [.int who, .int (nI i)]) (rest := []) Sx (cm_isReached l D a cI cZ N K B Q1 hN hKK hC hDr Z who (nI i) (hw) (⟨i, by omega, rfl⟩)) v_M_isReached ⟨rfl, rfl, Nat.le_of_ble_eq_true rfl, Nat.le_of_ble_eq_true rfl⟩ hK hP (ci := 1) (q0 := 0) rfl rfl (wM_D hD) hS (fun _ h => h) rfl hl.1 rfl (Nat.le_of_ble_eq_true rfl) d_M_scope_54 ⟨Nat.le_of_ble_eq_true rfl, Nat.le_of_ble_eq_true rfl⟩ (fun r u H locs hu hP hS => ?_)
          obtain ⟨rfl, rfl⟩ := hu
          have hP : va_P D classes (wM a cI cZ (nI N) (nI K) B ((m_isReached N K B Q1 who (nI i)).2)) H := hP
          refine lv_if_eq (tgt := 70) hx hb d_M_scope_57 (by decide) (fun c_57 => ?_) (fun c_57 => ?_)
          · refine lv_iinc (v := nI (i + 1)) (lv' := [(4, .int (nI (i + 1))), (0, .ref (a 0)), (1, .int who), (2, .int ix), (3, .int v3)]) hx hb d_M_scope_70 hl (k := 4) rfl (nI_1 i) (by decide) rfl (fun ls hl => ?_)
            refine lv_goto (tgt := 21) hx hb d_M_scope_73 (by decide) ?_
            have e_b : m_scope_21 N K B who ix (k + 1) i Q1 v3 = m_scope_21 N K B who ix k (i + 1) ((m_isReached N K B Q1 who (nI i)).2) v3 := by rw [m_scope_21_S, if_neg c_31, if_neg c_37, if_pos c_47, if_pos c_57]
            rw [e_b]
            exact ih (i + 1) (by omega) ((m_isReached N K B Q1 who (nI i)).2) v3 _ _ ls (by first | exact hv | exact isReached_01 hv) hP hS (lv_sub hl [1, 2, 3, 4, 0] rfl)
          · refine lv_iload_n hx hb d_M_scope_60 rfl (lv_at hl 3 rfl) ?_
            refine lv_if_ne (tgt := 67) hx hb d_M_scope_61 (by decide) (fun c_61 => ?_) (fun c_61 => ?_)
            · refine lv_iinc (v := v3 + (-1 : Int32)) (lv' := [(3, .int (v3 + (-1 : Int32))), (0, .ref (a 0)), (1, .int who), (2, .int ix), (4, .int (nI i))]) hx hb d_M_scope_67 hl (k := 3) rfl (by rfl) (by decide) rfl (fun ls hl => ?_)
              refine lv_iinc (v := nI (i + 1)) (lv' := [(4, .int (nI (i + 1))), (3, .int (v3 + (-1 : Int32))), (0, .ref (a 0)), (1, .int who), (2, .int ix)]) hx hb d_M_scope_70 hl (k := 4) rfl (nI_1 i) (by decide) rfl (fun ls hl => ?_)
              refine lv_goto (tgt := 21) hx hb d_M_scope_73 (by decide) ?_
              have e_b : m_scope_21 N K B who ix (k + 1) i Q1 v3 = m_scope_21 N K B who ix k (i + 1) ((m_isReached N K B Q1 who (nI i)).2) (v3 + (-1 : Int32)) := by rw [m_scope_21_S, if_neg c_31, if_neg c_37, if_pos c_47, if_neg c_57, if_neg c_61]
              rw [e_b]
              exact ih (i + 1) (by omega) ((m_isReached N K B Q1 who (nI i)).2) (v3 + (-1 : Int32)) _ _ ls (by first | exact hv | exact isReached_01 hv) hP hS (lv_sub hl [2, 3, 4, 1, 0] rfl)
            · refine lv_iload hx hb d_M_scope_64 (lv_at hl 4 rfl) ?_
              exact wRet (u := (m_isReached N K B Q1 who (nI i)).2) hx hb hr rfl hlk (show nI i = (m_scope_21 N K B who ix (k + 1) i Q1 v3).1 ∧ (m_isReached N K B Q1 who (nI i)).2 = (m_scope_21 N K B who ix (k + 1) i Q1 v3).2 from by rw [m_scope_21_S, if_neg c_31, if_neg c_37, if_pos c_47, if_neg c_57, if_pos c_61]; exact ⟨rfl, rfl⟩) hP hK hS d_M_scope_66
def m_scope (N : Nat) (K : Nat) (B : Nat → Nat → Int32) (Q : Nat → Nat → Int32) (who ix : Int32) : Int32 × (Nat → Nat → Int32) := (if (m_isOf N K B Q who (3 : Int32)) = (0 : Int32) then ((-2 : Int32), Q) else m_scope_21 N K B who ix N 0 (m_looks N K B Q) ix)
set_option maxHeartbeats 4000000 in
set_option maxRecDepth 100000 in
theorem cm_scope (l : Launch) (D : va_G) (a : Nat → Nat) (cI cZ : ClassId) (N K : Nat) (B Q : Nat → Nat → Int32) (hN : N ≤ 30) (hKK : K ≤ 10) (hC : chs N B) (hDr : drM N K B) (Z : Nat → Prop) (who ix : Int32) : Met l y_M_scope (Cond.code y_M_scope b_M_scope 5 (some .int) :: BW) ({ frames := 7, cells := 0, slots := 0, locals := 155 } : Room) (PcW D Z (wM a cI cZ (nI N) (nI K) B Q) (tM cI cZ) [.ref (a 0), .int who, .int ix]) (va_Qi (fun r u => r = (m_scope N K B Q who ix).1 ∧ u = (m_scope N K B Q who ix).2) (atW D (fun u => wM a cI cZ (nI N) (nI K) B u) (tM cI cZ)) Z) 0 0 Z := by
  refine wStart (by decide) rfl (Nat.le_of_ble_eq_true rfl) (fun p e s m below meth c Sx hr hlk hP hK hD hS ls hl => ?_)
  obtain ⟨hx, hb, hml, hown, hts⟩ := id Sx
  have hl : lv_has ls 5 [(0, .ref (a 0)), (1, .int who), (2, .int ix)] := hl
  refine lv_aload_n hx hb d_M_scope_0 rfl (lv_at hl 0 rfl) ?_
  refine lv_iload_n hx hb d_M_scope_1 rfl (lv_at hl 1 rfl) ?_
  refine lv_iconst (v := (3 : Int32)) hx hb d_M_scope_2 (by decide) ?_
  refine xro (As := [.int who, .int (3 : Int32)]) (rest := []) Sx (cm_isOf l D a cI cZ N K B Q hN hKK hC hDr who (3 : Int32)) v_M_isOf ⟨rfl, rfl, Nat.le_of_ble_eq_true rfl, Nat.le_of_ble_eq_true rfl⟩ hK hP (ci := 1) (q0 := 0) rfl rfl rfl hl.1 rfl (Nat.le_of_ble_eq_true rfl) d_M_scope_3 ⟨Nat.le_of_ble_eq_true rfl, Nat.le_of_ble_eq_true rfl⟩ (fun r hq => ?_)
  subst hq
  refine lv_if_ne (tgt := 12) hx hb d_M_scope_6 (by decide) (fun c_6 => ?_) (fun c_6 => ?_)
  · refine lv_aload_n hx hb d_M_scope_12 rfl (lv_at hl 0 rfl) ?_
    refine xwv (As := []) (rest := []) Sx (cm_looks l D a cI cZ N K B Q hN hKK hC hDr Z) v_M_looks ⟨rfl, rfl, Nat.le_of_ble_eq_true rfl, Nat.le_of_ble_eq_true rfl⟩ hK hP (ci := 1) (q0 := 0) rfl rfl (wM_D hD) hS (fun _ h => h) rfl hl.1 rfl (Nat.le_of_ble_eq_true rfl) d_M_scope_13 ⟨Nat.le_of_ble_eq_true rfl, Nat.le_of_ble_eq_true rfl⟩ (fun u H locs hu hP hS => ?_)
    subst hu
    have hP : va_P D classes (wM a cI cZ (nI N) (nI K) B (m_looks N K B Q)) H := hP
    refine lv_iload_n hx hb d_M_scope_16 rfl (lv_at hl 2 rfl) ?_
    refine lv_istore_n (lv' := [(3, .int ix), (0, .ref (a 0)), (1, .int who), (2, .int ix)]) hx hb d_M_scope_17 rfl hl (by decide) rfl (fun ls hl => ?_)
    refine lv_iconst (v := (0 : Int32)) hx hb d_M_scope_18 (by decide) ?_
    refine lv_istore (lv' := [(4, .int (0 : Int32)), (3, .int ix), (0, .ref (a 0)), (1, .int who), (2, .int ix)]) hx hb d_M_scope_19 hl (by decide) rfl (fun ls hl => ?_)
    have e_21 : m_scope N K B Q who ix = m_scope_21 N K B who ix N 0 (m_looks N K B Q) ix := by rw [m_scope, if_neg c_6]
    rw [e_21]
    exact wm_scope_21 l D a cI cZ N K B Q hN hKK hC hDr Z who ix (isOfM_j hN c_6) Sx hr hlk (wM_D hD) hK N 0 (by omega) (m_looks N K B Q) ix _ _ ls (looks_01) hP hS (lv_sub hl [2, 3, 4, 1, 0] rfl)
  · refine lv_bipush (v := (-2 : Int32)) hx hb d_M_scope_9 (by decide) ?_
    exact wRet (u := Q) hx hb hr rfl hlk (show (-2 : Int32) = (m_scope N K B Q who ix).1 ∧ Q = (m_scope N K B Q who ix).2 from by rw [m_scope, if_pos c_6]; exact ⟨rfl, rfl⟩) hP hK hS d_M_scope_11

def m_hears_39 (N : Nat) (K : Nat) (B : Nat → Nat → Int32) (who : Int32) (u2 : Int32) : Nat → Nat → (Nat → Nat → Int32) → Int32 → Int32 → Int32 × (Nat → Nat → Int32)
  | 0, i, Q1, v3, v4 => (v3, Q1)
  | k + 1, i, Q1, v3, v4 => (if (nI i) = who then m_hears_39 N K B who u2 k (i + 1) Q1 v3 v4 else (if (m_spaceOf N K B Q1 (nI i)) = (-1 : Int32) then m_hears_39 N K B who u2 k (i + 1) Q1 v3 v4 else (if (1000 : Int32) ≤ (Q1 2 (((30 : Int32) * (m_spaceOf N K B Q1 (nI i))) + u2).toNatClampNeg) then m_hears_39 N K B who u2 k (i + 1) Q1 v3 v4 else (if ((B 2 ((4 * i) + 3)) - (Q1 2 (((30 : Int32) * (m_spaceOf N K B Q1 (nI i))) + u2).toNatClampNeg)) ≤ v4 then m_hears_39 N K B who u2 k (i + 1) Q1 v3 v4 else m_hears_39 N K B who u2 k (i + 1) Q1 (nI i) ((B 2 ((4 * i) + 3)) - (Q1 2 (((30 : Int32) * (m_spaceOf N K B Q1 (nI i))) + u2).toNatClampNeg))))))
theorem m_hears_39_0 (N : Nat) (K : Nat) (B : Nat → Nat → Int32) (who : Int32) (u2 : Int32) (i : Nat) (Q1 : (Nat → Nat → Int32)) (v3 v4 : Int32) : m_hears_39 N K B who u2 0 i Q1 v3 v4 = (v3, Q1) := rfl
theorem m_hears_39_S (N : Nat) (K : Nat) (B : Nat → Nat → Int32) (who : Int32) (u2 : Int32) (k : Nat) (i : Nat) (Q1 : (Nat → Nat → Int32)) (v3 v4 : Int32) : m_hears_39 N K B who u2 (k + 1) i Q1 v3 v4 = (if (nI i) = who then m_hears_39 N K B who u2 k (i + 1) Q1 v3 v4 else (if (m_spaceOf N K B Q1 (nI i)) = (-1 : Int32) then m_hears_39 N K B who u2 k (i + 1) Q1 v3 v4 else (if (1000 : Int32) ≤ (Q1 2 (((30 : Int32) * (m_spaceOf N K B Q1 (nI i))) + u2).toNatClampNeg) then m_hears_39 N K B who u2 k (i + 1) Q1 v3 v4 else (if ((B 2 ((4 * i) + 3)) - (Q1 2 (((30 : Int32) * (m_spaceOf N K B Q1 (nI i))) + u2).toNatClampNeg)) ≤ v4 then m_hears_39 N K B who u2 k (i + 1) Q1 v3 v4 else m_hears_39 N K B who u2 k (i + 1) Q1 (nI i) ((B 2 ((4 * i) + 3)) - (Q1 2 (((30 : Int32) * (m_spaceOf N K B Q1 (nI i))) + u2).toNatClampNeg)))))) := rfl
set_option maxHeartbeats 4000000 in
set_option maxRecDepth 100000 in
theorem wm_hears_39 (l : Launch) (D : va_G) (a : Nat → Nat) (cI cZ : ClassId) (N K : Nat) (B Q : Nat → Nat → Int32) (hN : N ≤ 30) (hKK : K ≤ 10) (hC : chs N B) (hDr : drM N K B) (Z : Nat → Prop) (who : Int32) (u2 : Int32) (hu2 : ∃ j : Nat, j < N ∧ u2 = nI j) {p : Program} {e : Env} {s : State} {m : MethodId} {below : List Frame} {meth : Method} {c : Code} (Sx : CallFix p m c b_M_hears 7 s ([.ref (a 0), .int who] : List Value).toArray BW R_M) (hr : meth.sig.returnType = (some .int)) (hlk : meth.locks = false) (hD : va_D Z (wM a cI cZ (nI N) (nI K) B Q)) (hK : va_K D classes (tM cI cZ) s) : ∀ (k i : Nat), i + k = N → ∀ (Q1 : (Nat → Nat → Int32)) (v3 v4 : Int32) (H : Heap) (locs : List Loc) (ls : Array Slot), va_P D classes (wM a cI cZ (nI N) (nI K) B Q1) H → va_S Z s.heap H locs → lv_has ls 7 [(0, .ref (a 0)), (1, .int who), (2, .int u2), (3, .int v3), (4, .int v4), (5, .int (nI i))] → W p l e ({ frames := 6, cells := 0, slots := 0, locals := 134 } : Room) s m ([.ref (a 0), .int who] : List Value).toArray below meth c H locs 0 0 (MQ below (va_Qi (fun r u => r = (m_hears_39 N K B who u2 k i Q1 v3 v4).1 ∧ u = (m_hears_39 N K B who u2 k i Q1 v3 v4).2) (atW D (fun u => wM a cI cZ (nI N) (nI K) B u) (tM cI cZ)) Z) ([.ref (a 0), .int who] : List Value).toArray s 0 0 Z) (F0 m 39 ls []) := by
  obtain ⟨hx, hb, hml, hown, hts⟩ := id Sx
  intro k
  induction k with
  | zero =>
    intro i hi Q1 v3 v4 H locs ls hP hS hl
    refine lv_iload hx hb d_M_hears_39 (lv_at hl 5 rfl) ?_
    refine lv_aload_n hx hb d_M_hears_41 rfl (lv_at hl 0 rfl) ?_
    refine va_get (D := D) (ci := 1) (v := .int (nI N)) (C := R_M) (T := F_M) (N := 16) hx hb hts i_M hown hK hP 0 rfl rfl 0 (by decide) (hts _ fl_M_47) (fun _ h9 => h9) rfl d_M_hears_42 ?_
    refine lv_icmp_ge (tgt := 150) hx hb d_M_hears_45 (by decide) (fun c_45 => ?_) (fun c_45 => absurd (nI_le (a := N) (b := i) (by omega) (by omega)) c_45)
    refine lv_iload_n hx hb d_M_hears_150 rfl (lv_at hl 3 rfl) ?_
    exact wRet (u := Q1) hx hb hr rfl hlk (show v3 = (m_hears_39 N K B who u2 0 i Q1 v3 v4).1 ∧ Q1 = (m_hears_39 N K B who u2 0 i Q1 v3 v4).2 from by rw [m_hears_39_0]; exact ⟨rfl, rfl⟩) hP hK hS d_M_hears_151
  | succ k ih =>
    intro i hi Q1 v3 v4 H locs ls hP hS hl
    refine lv_iload hx hb d_M_hears_39 (lv_at hl 5 rfl) ?_
    refine lv_aload_n hx hb d_M_hears_41 rfl (lv_at hl 0 rfl) ?_
    refine va_get (D := D) (ci := 1) (v := .int (nI N)) (C := R_M) (T := F_M) (N := 16) hx hb hts i_M hown hK hP 0 rfl rfl 0 (by decide) (hts _ fl_M_47) (fun _ h9 => h9) rfl d_M_hears_42 ?_
    refine lv_icmp_ge (tgt := 150) hx hb d_M_hears_45 (by decide) (fun c_45 => absurd c_45 (nI_ge (a := i) (b := N) (by omega) (by omega))) (fun c_45 => ?_)
    refine lv_aload_n hx hb d_M_hears_48 rfl (lv_at hl 0 rfl) ?_
    refine lv_iload hx hb d_M_hears_49 (lv_at hl 5 rfl) ?_
    refine xro (As := [.int (nI i)]) (rest := []) Sx (cm_spaceOf l D a cI cZ N K B Q1 hN hKK hC hDr (nI i) (⟨i, by omega, rfl⟩)) v_M_spaceOf ⟨rfl, rfl, Nat.le_of_ble_eq_true rfl, Nat.le_of_ble_eq_true rfl⟩ hK hP (ci := 1) (q0 := 0) rfl rfl rfl hl.1 rfl (Nat.le_of_ble_eq_true rfl) d_M_hears_51 ⟨Nat.le_of_ble_eq_true rfl, Nat.le_of_ble_eq_true rfl⟩ (fun r hq => ?_)
    subst hq
    refine lv_istore (lv' := [(6, .int (m_spaceOf N K B Q1 (nI i))), (0, .ref (a 0)), (1, .int who), (2, .int u2), (3, .int v3), (4, .int v4), (5, .int (nI i))]) hx hb d_M_hears_54 hl (by decide) rfl (fun ls hl => ?_)
    refine lv_iload hx hb d_M_hears_56 (lv_at hl 6 rfl) ?_
    refine lv_iload_n hx hb d_M_hears_58 rfl (lv_at hl 2 rfl) ?_
    refine lv_icmp_eq (tgt := 144) hx hb d_M_hears_59 (by decide) (fun c_59 => ?_) (fun c_59 => ?_)
    · refine lv_iinc (v := nI (i + 1)) (lv' := [(5, .int (nI (i + 1))), (6, .int (m_spaceOf N K B Q1 (nI i))), (0, .ref (a 0)), (1, .int who), (2, .int u2), (3, .int v3), (4, .int v4)]) hx hb d_M_hears_144 hl (k := 6) rfl (nI_1 i) (by decide) rfl (fun ls hl => ?_)
      refine lv_goto (tgt := 39) hx hb d_M_hears_147 (by decide) ?_
      have e_b : m_hears_39 N K B who u2 (k + 1) i Q1 v3 v4 = m_hears_39 N K B who u2 k (i + 1) Q1 v3 v4 := by rw [m_hears_39_S, if_pos c_59]
      rw [e_b]
      exact ih (i + 1) (by omega) Q1 v3 v4 _ _ ls hP hS (lv_sub hl [2, 3, 4, 5, 6, 0] rfl)
    · refine lv_iload hx hb d_M_hears_62 (lv_at hl 0 rfl) ?_
      refine lv_iconst (v := (-1 : Int32)) hx hb d_M_hears_64 (by decide) ?_
      refine lv_icmp_eq (tgt := 144) hx hb d_M_hears_65 (by decide) (fun c_65 => ?_) (fun c_65 => ?_)
      · refine lv_iinc (v := nI (i + 1)) (lv' := [(5, .int (nI (i + 1))), (6, .int (m_spaceOf N K B Q1 (nI i))), (0, .ref (a 0)), (1, .int who), (2, .int u2), (3, .int v3), (4, .int v4)]) hx hb d_M_hears_144 hl (k := 6) rfl (nI_1 i) (by decide) rfl (fun ls hl => ?_)
        refine lv_goto (tgt := 39) hx hb d_M_hears_147 (by decide) ?_
        have e_b : m_hears_39 N K B who u2 (k + 1) i Q1 v3 v4 = m_hears_39 N K B who u2 k (i + 1) Q1 v3 v4 := by rw [m_hears_39_S, if_neg c_59, if_pos c_65]
        rw [e_b]
        exact ih (i + 1) (by omega) Q1 v3 v4 _ _ ls hP hS (lv_sub hl [2, 3, 4, 5, 6, 0] rfl)
      · refine lv_aload_n hx hb d_M_hears_68 rfl (lv_at hl 1 rfl) ?_
        refine va_get (D := D) (ci := 1) (v := .ref (a 10)) (C := R_M) (T := F_M) (N := 16) hx hb hts i_M hown hK hP 0 rfl rfl 13 (by decide) (hts _ fl_M_37) (fun _ h9 => h9) rfl d_M_hears_69 ?_
        refine lv_bipush (v := (30 : Int32)) hx hb d_M_hears_72 (by decide) ?_
        refine lv_iload hx hb d_M_hears_74 (lv_at hl 0 rfl) ?_
        refine lv_imul hx hb d_M_hears_76 ?_
        refine lv_iload_n hx hb d_M_hears_77 rfl (lv_at hl 3 rfl) ?_
        refine lv_iadd hx hb d_M_hears_78 ?_
        refine va_iald (n := 900) hx hb hK hP 10 0 rfl rfl (ls_in hN (spaceOfM_j hN hC (⟨i, by omega, rfl⟩) c_65) (hu2)) d_M_hears_79 ?_
        refine lv_sipush (v := (1000 : Int32)) hx hb d_M_hears_80 (by decide) ?_
        refine lv_icmp_ge (tgt := 144) hx hb d_M_hears_83 (by decide) (fun c_83 => ?_) (fun c_83 => ?_)
        · refine lv_iinc (v := nI (i + 1)) (lv' := [(5, .int (nI (i + 1))), (6, .int (m_spaceOf N K B Q1 (nI i))), (0, .ref (a 0)), (1, .int who), (2, .int u2), (3, .int v3), (4, .int v4)]) hx hb d_M_hears_144 hl (k := 6) rfl (nI_1 i) (by decide) rfl (fun ls hl => ?_)
          refine lv_goto (tgt := 39) hx hb d_M_hears_147 (by decide) ?_
          have e_b : m_hears_39 N K B who u2 (k + 1) i Q1 v3 v4 = m_hears_39 N K B who u2 k (i + 1) Q1 v3 v4 := by rw [m_hears_39_S, if_neg c_59, if_neg c_65, if_pos c_83]
          rw [e_b]
          exact ih (i + 1) (by omega) Q1 v3 v4 _ _ ls hP hS (lv_sub hl [2, 3, 4, 5, 6, 0] rfl)
        · refine lv_aload_n hx hb d_M_hears_86 rfl (lv_at hl 1 rfl) ?_
          refine va_get (D := D) (ci := 1) (v := .ref (a 3)) (C := R_M) (T := F_M) (N := 16) hx hb hts i_M hown hK hP 0 rfl rfl 3 (by decide) (hts _ fl_M_16) (fun _ h9 => h9) rfl d_M_hears_87 ?_
          refine lv_iconst (v := (4 : Int32)) hx hb d_M_hears_90 (by decide) ?_
          refine lv_iload hx hb d_M_hears_91 (lv_at hl 6 rfl) ?_
          refine x_imulN 4 i rfl rfl hx hb d_M_hears_93 ?_
          refine lv_iconst (v := (3 : Int32)) hx hb d_M_hears_94 (by decide) ?_
          refine x_iaddN (4 * i) 3 rfl rfl hx hb d_M_hears_95 ?_
          refine x_ialdN (n := 120) hx hb hK hP 3 0 rfl rfl (by omega) (by omega) d_M_hears_96 ?_
          refine lv_aload_n hx hb d_M_hears_97 rfl (lv_at hl 1 rfl) ?_
          refine va_get (D := D) (ci := 1) (v := .ref (a 10)) (C := R_M) (T := F_M) (N := 16) hx hb hts i_M hown hK hP 0 rfl rfl 13 (by decide) (hts _ fl_M_37) (fun _ h9 => h9) rfl d_M_hears_98 ?_
          refine lv_bipush (v := (30 : Int32)) hx hb d_M_hears_101 (by decide) ?_
          refine lv_iload hx hb d_M_hears_103 (lv_at hl 0 rfl) ?_
          refine lv_imul hx hb d_M_hears_105 ?_
          refine lv_iload_n hx hb d_M_hears_106 rfl (lv_at hl 3 rfl) ?_
          refine lv_iadd hx hb d_M_hears_107 ?_
          refine va_iald (n := 900) hx hb hK hP 10 0 rfl rfl (ls_in hN (spaceOfM_j hN hC (⟨i, by omega, rfl⟩) c_65) (hu2)) d_M_hears_108 ?_
          refine lv_isub hx hb d_M_hears_109 ?_
          refine lv_iload hx hb d_M_hears_110 (lv_at hl 5 rfl) ?_
          refine lv_icmp_le (tgt := 144) hx hb d_M_hears_112 (by decide) (fun c_112 => ?_) (fun c_112 => ?_)
          · refine lv_iinc (v := nI (i + 1)) (lv' := [(5, .int (nI (i + 1))), (6, .int (m_spaceOf N K B Q1 (nI i))), (0, .ref (a 0)), (1, .int who), (2, .int u2), (3, .int v3), (4, .int v4)]) hx hb d_M_hears_144 hl (k := 6) rfl (nI_1 i) (by decide) rfl (fun ls hl => ?_)
            refine lv_goto (tgt := 39) hx hb d_M_hears_147 (by decide) ?_
            have e_b : m_hears_39 N K B who u2 (k + 1) i Q1 v3 v4 = m_hears_39 N K B who u2 k (i + 1) Q1 v3 v4 := by rw [m_hears_39_S, if_neg c_59, if_neg c_65, if_neg c_83, if_pos c_112]
            rw [e_b]
            exact ih (i + 1) (by omega) Q1 v3 v4 _ _ ls hP hS (lv_sub hl [2, 3, 4, 5, 6, 0] rfl)
          · refine lv_aload_n hx hb d_M_hears_115 rfl (lv_at hl 1 rfl) ?_
            refine va_get (D := D) (ci := 1) (v := .ref (a 3)) (C := R_M) (T := F_M) (N := 16) hx hb hts i_M hown hK hP 0 rfl rfl 3 (by decide) (hts _ fl_M_16) (fun _ h9 => h9) rfl d_M_hears_116 ?_
            refine lv_iconst (v := (4 : Int32)) hx hb d_M_hears_119 (by decide) ?_
            refine lv_iload hx hb d_M_hears_120 (lv_at hl 6 rfl) ?_
            refine x_imulN 4 i rfl rfl hx hb d_M_hears_122 ?_
            refine lv_iconst (v := (3 : Int32)) hx hb d_M_hears_123 (by decide) ?_
            refine x_iaddN (4 * i) 3 rfl rfl hx hb d_M_hears_124 ?_
            refine x_ialdN (n := 120) hx hb hK hP 3 0 rfl rfl (by omega) (by omega) d_M_hears_125 ?_
            refine lv_aload_n hx hb d_M_hears_126 rfl (lv_at hl 1 rfl) ?_
            refine va_get (D := D) (ci := 1) (v := .ref (a 10)) (C := R_M) (T := F_M) (N := 16) hx hb hts i_M hown hK hP 0 rfl rfl 13 (by decide) (hts _ fl_M_37) (fun _ h9 => h9) rfl d_M_hears_127 ?_
            refine lv_bipush (v := (30 : Int32)) hx hb d_M_hears_130 (by decide) ?_
            refine lv_iload hx hb d_M_hears_132 (lv_at hl 0 rfl) ?_
            refine lv_imul hx hb d_M_hears_134 ?_
            refine lv_iload_n hx hb d_M_hears_135 rfl (lv_at hl 3 rfl) ?_
            refine lv_iadd hx hb d_M_hears_136 ?_
            refine va_iald (n := 900) hx hb hK hP 10 0 rfl rfl (ls_in hN (spaceOfM_j hN hC (⟨i, by omega, rfl⟩) c_65) (hu2)) d_M_hears_137 ?_
            refine lv_isub hx hb d_M_hears_138 ?_
            refine lv_istore (lv' := [(4, .int ((B 2 ((4 * i) + 3)) - (Q1 2 (((30 : Int32) * (m_spaceOf N K B Q1 (nI i))) + u2).toNatClampNeg))), (6, .int (m_spaceOf N K B Q1 (nI i))), (0, .ref (a 0)), (1, .int who), (2, .int u2), (3, .int v3), (5, .int (nI i))]) hx hb d_M_hears_139 hl (by decide) rfl (fun ls hl => ?_)
            refine lv_iload hx hb d_M_hears_141 (lv_at hl 6 rfl) ?_
            refine lv_istore_n (lv' := [(3, .int (nI i)), (4, .int ((B 2 ((4 * i) + 3)) - (Q1 2 (((30 : Int32) * (m_spaceOf N K B Q1 (nI i))) + u2).toNatClampNeg))), (6, .int (m_spaceOf N K B Q1 (nI i))), (0, .ref (a 0)), (1, .int who), (2, .int u2), (5, .int (nI i))]) hx hb d_M_hears_143 rfl hl (by decide) rfl (fun ls hl => ?_)
            refine lv_iinc (v := nI (i + 1)) (lv' := [(5, .int (nI (i + 1))), (3, .int (nI i)), (4, .int ((B 2 ((4 * i) + 3)) - (Q1 2 (((30 : Int32) * (m_spaceOf N K B Q1 (nI i))) + u2).toNatClampNeg))), (6, .int (m_spaceOf N K B Q1 (nI i))), (0, .ref (a 0)), (1, .int who), (2, .int u2)]) hx hb d_M_hears_144 hl (k := 6) rfl (nI_1 i) (by decide) rfl (fun ls hl => ?_)
            refine lv_goto (tgt := 39) hx hb d_M_hears_147 (by decide) ?_
            have e_b : m_hears_39 N K B who u2 (k + 1) i Q1 v3 v4 = m_hears_39 N K B who u2 k (i + 1) Q1 (nI i) ((B 2 ((4 * i) + 3)) - (Q1 2 (((30 : Int32) * (m_spaceOf N K B Q1 (nI i))) + u2).toNatClampNeg)) := by rw [m_hears_39_S, if_neg c_59, if_neg c_65, if_neg c_83, if_neg c_112]
            rw [e_b]
            exact ih (i + 1) (by omega) Q1 (nI i) ((B 2 ((4 * i) + 3)) - (Q1 2 (((30 : Int32) * (m_spaceOf N K B Q1 (nI i))) + u2).toNatClampNeg)) _ _ ls hP hS (lv_sub hl [4, 5, 6, 1, 2, 0] rfl)
def m_hears (N : Nat) (K : Nat) (B : Nat → Nat → Int32) (Q : Nat → Nat → Int32) (who : Int32) : Int32 × (Nat → Nat → Int32) := (if (m_isOf N K B Q who (3 : Int32)) = (0 : Int32) then ((-2 : Int32), Q) else (if (m_spaceOf N K B Q who) = (-1 : Int32) then ((-1 : Int32), Q) else m_hears_39 N K B who (m_spaceOf N K B Q who) N 0 (m_findLosses N K B Q (1 : Int32) (1 : Int32)) (-1 : Int32) (0 : Int32)))
set_option maxHeartbeats 4000000 in
set_option maxRecDepth 100000 in
theorem cm_hears (l : Launch) (D : va_G) (a : Nat → Nat) (cI cZ : ClassId) (N K : Nat) (B Q : Nat → Nat → Int32) (hN : N ≤ 30) (hKK : K ≤ 10) (hC : chs N B) (hDr : drM N K B) (Z : Nat → Prop) (who : Int32) : Met l y_M_hears (Cond.code y_M_hears b_M_hears 7 (some .int) :: BW) ({ frames := 6, cells := 0, slots := 0, locals := 134 } : Room) (PcW D Z (wM a cI cZ (nI N) (nI K) B Q) (tM cI cZ) [.ref (a 0), .int who]) (va_Qi (fun r u => r = (m_hears N K B Q who).1 ∧ u = (m_hears N K B Q who).2) (atW D (fun u => wM a cI cZ (nI N) (nI K) B u) (tM cI cZ)) Z) 0 0 Z := by
  refine wStart (by decide) rfl (Nat.le_of_ble_eq_true rfl) (fun p e s m below meth c Sx hr hlk hP hK hD hS ls hl => ?_)
  obtain ⟨hx, hb, hml, hown, hts⟩ := id Sx
  have hl : lv_has ls 7 [(0, .ref (a 0)), (1, .int who)] := hl
  refine lv_aload_n hx hb d_M_hears_0 rfl (lv_at hl 0 rfl) ?_
  refine lv_iload_n hx hb d_M_hears_1 rfl (lv_at hl 1 rfl) ?_
  refine lv_iconst (v := (3 : Int32)) hx hb d_M_hears_2 (by decide) ?_
  refine xro (As := [.int who, .int (3 : Int32)]) (rest := []) Sx (cm_isOf l D a cI cZ N K B Q hN hKK hC hDr who (3 : Int32)) v_M_isOf ⟨rfl, rfl, Nat.le_of_ble_eq_true rfl, Nat.le_of_ble_eq_true rfl⟩ hK hP (ci := 1) (q0 := 0) rfl rfl rfl hl.1 rfl (Nat.le_of_ble_eq_true rfl) d_M_hears_3 ⟨Nat.le_of_ble_eq_true rfl, Nat.le_of_ble_eq_true rfl⟩ (fun r hq => ?_)
  subst hq
  refine lv_if_ne (tgt := 12) hx hb d_M_hears_6 (by decide) (fun c_6 => ?_) (fun c_6 => ?_)
  · refine lv_aload_n hx hb d_M_hears_12 rfl (lv_at hl 0 rfl) ?_
    refine lv_iload_n hx hb d_M_hears_13 rfl (lv_at hl 1 rfl) ?_
    refine xro (As := [.int who]) (rest := []) Sx (cm_spaceOf l D a cI cZ N K B Q hN hKK hC hDr who (isOfM_j hN c_6)) v_M_spaceOf ⟨rfl, rfl, Nat.le_of_ble_eq_true rfl, Nat.le_of_ble_eq_true rfl⟩ hK hP (ci := 1) (q0 := 0) rfl rfl rfl hl.1 rfl (Nat.le_of_ble_eq_true rfl) d_M_hears_14 ⟨Nat.le_of_ble_eq_true rfl, Nat.le_of_ble_eq_true rfl⟩ (fun r hq => ?_)
    subst hq
    refine lv_istore_n (lv' := [(2, .int (m_spaceOf N K B Q who)), (0, .ref (a 0)), (1, .int who)]) hx hb d_M_hears_17 rfl hl (by decide) rfl (fun ls hl => ?_)
    refine lv_iload_n hx hb d_M_hears_18 rfl (lv_at hl 0 rfl) ?_
    refine lv_iconst (v := (-1 : Int32)) hx hb d_M_hears_19 (by decide) ?_
    refine lv_icmp_ne (tgt := 25) hx hb d_M_hears_20 (by decide) (fun c_20 => ?_) (fun c_20 => ?_)
    · refine lv_aload_n hx hb d_M_hears_25 rfl (lv_at hl 1 rfl) ?_
      refine lv_iconst (v := (1 : Int32)) hx hb d_M_hears_26 (by decide) ?_
      refine lv_iconst (v := (1 : Int32)) hx hb d_M_hears_27 (by decide) ?_
      refine xwv (As := [.int (1 : Int32), .int (1 : Int32)]) (rest := []) Sx (cm_findLosses l D a cI cZ N K B Q hN hKK hC hDr Z (1 : Int32) (1 : Int32)) v_M_findLosses ⟨rfl, rfl, Nat.le_of_ble_eq_true rfl, Nat.le_of_ble_eq_true rfl⟩ hK hP (ci := 1) (q0 := 0) rfl rfl (wM_D hD) hS (fun _ h => h) rfl hl.1 rfl (Nat.le_of_ble_eq_true rfl) d_M_hears_28 ⟨Nat.le_of_ble_eq_true rfl, Nat.le_of_ble_eq_true rfl⟩ (fun u H locs hu hP hS => ?_)
      subst hu
      have hP : va_P D classes (wM a cI cZ (nI N) (nI K) B (m_findLosses N K B Q (1 : Int32) (1 : Int32))) H := hP
      refine lv_iconst (v := (-1 : Int32)) hx hb d_M_hears_31 (by decide) ?_
      refine lv_istore_n (lv' := [(3, .int (-1 : Int32)), (2, .int (m_spaceOf N K B Q who)), (0, .ref (a 0)), (1, .int who)]) hx hb d_M_hears_32 rfl hl (by decide) rfl (fun ls hl => ?_)
      refine lv_iconst (v := (0 : Int32)) hx hb d_M_hears_33 (by decide) ?_
      refine lv_istore (lv' := [(4, .int (0 : Int32)), (3, .int (-1 : Int32)), (2, .int (m_spaceOf N K B Q who)), (0, .ref (a 0)), (1, .int who)]) hx hb d_M_hears_34 hl (by decide) rfl (fun ls hl => ?_)
      refine lv_iconst (v := (0 : Int32)) hx hb d_M_hears_36 (by decide) ?_
      refine lv_istore (lv' := [(5, .int (0 : Int32)), (4, .int (0 : Int32)), (3, .int (-1 : Int32)), (2, .int (m_spaceOf N K B Q who)), (0, .ref (a 0)), (1, .int who)]) hx hb d_M_hears_37 hl (by decide) rfl (fun ls hl => ?_)
      have e_39 : m_hears N K B Q who = m_hears_39 N K B who (m_spaceOf N K B Q who) N 0 (m_findLosses N K B Q (1 : Int32) (1 : Int32)) (-1 : Int32) (0 : Int32) := by rw [m_hears, if_neg c_6, if_neg c_20]
      rw [e_39]
      exact wm_hears_39 l D a cI cZ N K B Q hN hKK hC hDr Z who (m_spaceOf N K B Q who) (spaceOfM_j hN hC (isOfM_j hN c_6) c_20) Sx hr hlk (wM_D hD) hK N 0 (by omega) (m_findLosses N K B Q (1 : Int32) (1 : Int32)) (-1 : Int32) (0 : Int32) _ _ ls hP hS (lv_sub hl [4, 5, 3, 2, 1, 0] rfl)
    · refine lv_iconst (v := (-1 : Int32)) hx hb d_M_hears_23 (by decide) ?_
      exact wRet (u := Q) hx hb hr rfl hlk (show (-1 : Int32) = (m_hears N K B Q who).1 ∧ Q = (m_hears N K B Q who).2 from by rw [m_hears, if_neg c_6, if_pos c_20]; exact ⟨rfl, rfl⟩) hP hK hS d_M_hears_24
  · refine lv_bipush (v := (-2 : Int32)) hx hb d_M_hears_9 (by decide) ?_
    exact wRet (u := Q) hx hb hr rfl hlk (show (-2 : Int32) = (m_hears N K B Q who).1 ∧ Q = (m_hears N K B Q who).2 from by rw [m_hears, if_pos c_6]; exact ⟨rfl, rfl⟩) hP hK hS d_M_hears_11
