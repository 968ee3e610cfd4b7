def m_in (x lo hi : Int32) : Int32 := (if x < lo then (0 : Int32) else (if hi < x then (0 : Int32) else (1 : Int32)))
set_option maxHeartbeats 4000000 in
set_option maxRecDepth 100000 in
theorem cm_in (l : Launch) (x lo hi : Int32) : Met l y_M_in (Cond.code y_M_in b_M_in 3 (some .boolean) :: BW) ({ frames := 0, cells := 0, slots := 0, locals := 0 } : Room) (va_Pc [.int x, .int lo, .int hi] (fun _ => True)) (vp_Si (fun r => r = m_in x lo hi)) 0 0 (fun _ => False) := by
  refine stStart (by decide) rfl (Nat.le_of_ble_eq_true rfl) (fun p e s m below meth c Sx hr hlk ls hl => ?_)
  obtain ⟨hx, hb, hml, hown, hts⟩ := id Sx
  have hl : lv_has ls 3 [(0, .int x), (1, .int lo), (2, .int hi)] := hl
  refine lv_iload_n hx hb d_M_in_0 rfl (lv_at hl 0 rfl) ?_
  refine lv_iload_n hx hb d_M_in_1 rfl (lv_at hl 1 rfl) ?_
  refine lv_icmp_lt (tgt := 14) hx hb d_M_in_2 (by decide) (fun c_2 => ?_) (fun c_2 => ?_)
  · refine lv_iconst (v := (0 : Int32)) hx hb d_M_in_14 (by decide) ?_
    exact roRet hx hb hr (by first | rfl | decide) hlk (show (0 : Int32) = m_in x lo hi from by rw [m_in, if_pos c_2]) d_M_in_15
  · refine lv_iload_n hx hb d_M_in_5 rfl (lv_at hl 0 rfl) ?_
    refine lv_iload_n hx hb d_M_in_6 rfl (lv_at hl 2 rfl) ?_
    refine lv_icmp_gt (tgt := 14) hx hb d_M_in_7 (by decide) (fun c_7 => ?_) (fun c_7 => ?_)
    · refine lv_iconst (v := (0 : Int32)) hx hb d_M_in_14 (by decide) ?_
      exact roRet hx hb hr (by first | rfl | decide) hlk (show (0 : Int32) = m_in x lo hi from by rw [m_in, if_neg c_2, if_pos c_7]) d_M_in_15
    · refine lv_iconst (v := (1 : Int32)) hx hb d_M_in_10 (by decide) ?_
      refine lv_goto (tgt := 15) hx hb d_M_in_11 (by decide) ?_
      exact roRet hx hb hr (by first | rfl | decide) hlk (show (1 : Int32) = m_in x lo hi from by rw [m_in, if_neg c_2, if_neg c_7]) d_M_in_15
theorem in_nar (x lo hi : Int32) : narrow .boolean (.int (m_in x lo hi)) = .int (m_in x lo hi) := by
  rw [m_in]
  by_cases c1 : x < lo
  · rw [if_pos c1]; rfl
  · rw [if_neg c1]
    by_cases c2 : hi < x
    · rw [if_pos c2]; rfl
    · rw [if_neg c2]; rfl
theorem in_s {x lo hi : Int32} (h : ¬ m_in x lo hi = (0 : Int32)) : ¬ x < lo ∧ ¬ hi < x := by
  rw [m_in] at h
  by_cases c1 : x < lo
  · rw [if_pos c1] at h; exact absurd rfl h
  · rw [if_neg c1] at h
    by_cases c2 : hi < x
    · rw [if_pos c2] at h; exact absurd rfl h
    · exact ⟨c1, c2⟩
theorem in_k {x hi : Int32} {n : Nat} (hn : hi.toInt = n) (h : ¬ m_in x (0 : Int32) hi = (0 : Int32)) : ∃ k : Nat, k ≤ n ∧ x = nI k := nI_of2 hn (in_s h).1 (Int32.not_lt.mp (in_s h).2)
theorem in03 {x : Int32} (h : ¬ m_in x (0 : Int32) (3 : Int32) = (0 : Int32)) : ∃ k : Nat, k < 4 ∧ x = nI k := by
  obtain ⟨k, h1, h2⟩ := in_k (n := 3) (by decide) h
  exact ⟨k, by omega, h2⟩
theorem in01 {x : Int32} (h : ¬ m_in x (0 : Int32) (1 : Int32) = (0 : Int32)) : ∃ k : Nat, k < 2 ∧ x = nI k := by
  obtain ⟨k, h1, h2⟩ := in_k (n := 1) (by decide) h
  exact ⟨k, by omega, h2⟩
theorem in58 {x : Int32} (h : ¬ m_in x (5 : Int32) (8 : Int32) = (0 : Int32)) : ∃ k : Nat, 5 ≤ k ∧ k ≤ 8 ∧ x = nI k := by
  obtain ⟨h1, h2⟩ := in_s h
  rw [Int32.lt_iff_toInt_lt] at h1 h2
  have e5 : (5 : Int32).toInt = 5 := by decide
  have e8 : (8 : Int32).toInt = 8 := by decide
  have h0 : ¬ x < (0 : Int32) := by
    rw [Int32.lt_iff_toInt_lt]
    have e0 : (0 : Int32).toInt = 0 := by decide
    omega
  obtain ⟨j, hj, rfl⟩ := nI_of h0
  rw [nI_toInt hj] at h1 h2
  exact ⟨j, by omega, by omega, rfl⟩

def m_isThing (N : Nat) (K : Nat) (B : Nat → Nat → Int32) (Q : Nat → Nat → Int32) (x : Int32) : Int32 := m_in x (0 : Int32) ((nI N) - (1 : Int32))
set_option maxHeartbeats 4000000 in
set_option maxRecDepth 100000 in
theorem cm_isThing (l : Launch) (D : va_G) (a : Nat → Nat) (cI cZ : ClassId) (N K : Nat) (B Q : Nat → Nat → Int32) (hN : N ≤ 30) (hKK : K ≤ 10) (hC : chs N B) (hDr : drM N K B) (x : Int32) : Met l y_M_isThing (Cond.code y_M_isThing b_M_isThing 2 (some .boolean) :: BW) ({ frames := 1, cells := 0, slots := 0, locals := 22 } : Room) (PcR D (wM a cI cZ (nI N) (nI K) B Q) (tM cI cZ) [.ref (a 0), .int x]) (vp_Si (fun r => r = m_isThing N K B Q x)) 0 0 (fun _ => False) := by
  refine roStart (by decide) rfl (Nat.le_of_ble_eq_true rfl) (fun p e s m below meth c Sx hr hlk hP hK ls hl => ?_)
  obtain ⟨hx, hb, hml, hown, hts⟩ := id Sx
  have hl : lv_has ls 2 [(0, .ref (a 0)), (1, .int x)] := hl
  refine lv_iload_n hx hb d_M_isThing_0 rfl (lv_at hl 1 rfl) ?_
  refine lv_iconst (v := (0 : Int32)) hx hb d_M_isThing_1 (by decide) ?_
  refine lv_aload_n hx hb d_M_isThing_2 rfl (lv_at hl 0 rfl) ?_
  refine va_get (D := D) (ci := 1) (v := .int (nI N)) (C := R_M) (T := F_M) (N := 16) hx hb hts i_M hown hK hP 0 rfl rfl 0 (by decide) (hts _ fl_M_47) (fun _ h9 => h9) rfl d_M_isThing_3 ?_
  refine lv_iconst (v := (1 : Int32)) hx hb d_M_isThing_6 (by decide) ?_
  refine lv_isub hx hb d_M_isThing_7 ?_
  refine xst (As := [.int x, .int (0 : Int32), .int ((nI N) - (1 : Int32))]) (rest := []) Sx (cm_in l x (0 : Int32) ((nI N) - (1 : Int32))) v_M_in ⟨rfl, rfl, Nat.le_of_ble_eq_true rfl, Nat.le_of_ble_eq_true rfl⟩ rfl hl.1 rfl (Nat.le_of_ble_eq_true rfl) d_M_isThing_8 ⟨Nat.le_of_ble_eq_true rfl, Nat.le_of_ble_eq_true rfl⟩ (fun r hq => ?_)
  subst hq
  exact roRet hx hb hr (in_nar _ _ _) hlk (show m_in x (0 : Int32) ((nI N) - (1 : Int32)) = m_isThing N K B Q x from by rw [m_isThing]) d_M_isThing_11

def m_isDoor (N : Nat) (K : Nat) (B : Nat → Nat → Int32) (Q : Nat → Nat → Int32) (x : Int32) : Int32 := m_in x (0 : Int32) ((nI K) - (1 : Int32))
set_option maxHeartbeats 4000000 in
set_option maxRecDepth 100000 in
theorem cm_isDoor (l : Launch) (D : va_G) (a : Nat → Nat) (cI cZ : ClassId) (N K : Nat) (B Q : Nat → Nat → Int32) (hN : N ≤ 30) (hKK : K ≤ 10) (hC : chs N B) (hDr : drM N K B) (x : Int32) : Met l y_M_isDoor (Cond.code y_M_isDoor b_M_isDoor 2 (some .boolean) :: BW) ({ frames := 1, cells := 0, slots := 0, locals := 22 } : Room) (PcR D (wM a cI cZ (nI N) (nI K) B Q) (tM cI cZ) [.ref (a 0), .int x]) (vp_Si (fun r => r = m_isDoor N K B Q x)) 0 0 (fun _ => False) := by
  refine roStart (by decide) rfl (Nat.le_of_ble_eq_true rfl) (fun p e s m below meth c Sx hr hlk hP hK ls hl => ?_)
  obtain ⟨hx, hb, hml, hown, hts⟩ := id Sx
  have hl : lv_has ls 2 [(0, .ref (a 0)), (1, .int x)] := hl
  refine lv_iload_n hx hb d_M_isDoor_0 rfl (lv_at hl 1 rfl) ?_
  refine lv_iconst (v := (0 : Int32)) hx hb d_M_isDoor_1 (by decide) ?_
  refine lv_aload_n hx hb d_M_isDoor_2 rfl (lv_at hl 0 rfl) ?_
  refine va_get (D := D) (ci := 1) (v := .int (nI K)) (C := R_M) (T := F_M) (N := 16) hx hb hts i_M hown hK hP 0 rfl rfl 4 (by decide) (hts _ fl_M_63) (fun _ h9 => h9) rfl d_M_isDoor_3 ?_
  refine lv_iconst (v := (1 : Int32)) hx hb d_M_isDoor_6 (by decide) ?_
  refine lv_isub hx hb d_M_isDoor_7 ?_
  refine xst (As := [.int x, .int (0 : Int32), .int ((nI K) - (1 : Int32))]) (rest := []) Sx (cm_in l x (0 : Int32) ((nI K) - (1 : Int32))) v_M_in ⟨rfl, rfl, Nat.le_of_ble_eq_true rfl, Nat.le_of_ble_eq_true rfl⟩ rfl hl.1 rfl (Nat.le_of_ble_eq_true rfl) d_M_isDoor_8 ⟨Nat.le_of_ble_eq_true rfl, Nat.le_of_ble_eq_true rfl⟩ (fun r hq => ?_)
  subst hq
  exact roRet hx hb hr (in_nar _ _ _) hlk (show m_in x (0 : Int32) ((nI K) - (1 : Int32)) = m_isDoor N K B Q x from by rw [m_isDoor]) d_M_isDoor_11
theorem inM_j {n : Nat} {x : Int32} (hn : n ≤ 30) (h : ¬ m_in x (0 : Int32) (nI n - (1 : Int32)) = (0 : Int32)) : ∃ j : Nat, j < n ∧ x = nI j := by
  obtain ⟨h1, h2⟩ := in_s h
  obtain ⟨j, hj, rfl⟩ := nI_of h1
  rw [Int32.lt_iff_toInt_lt, show (1 : Int32) = nI 1 from rfl, pk_sub_toInt (by omega) (by omega), nI_toInt hj] at h2
  exact ⟨j, by omega, rfl⟩
theorem isThingM_j {N K : Nat} {B Q : Nat → Nat → Int32} {x : Int32} (hN : N ≤ 30) (h : ¬ m_isThing N K B Q x = (0 : Int32)) : ∃ j : Nat, j < N ∧ x = nI j := inM_j hN h
theorem isDoorM_j {N K : Nat} {B Q : Nat → Nat → Int32} {x : Int32} (hK : K ≤ 10) (h : ¬ m_isDoor N K B Q x = (0 : Int32)) : ∃ j : Nat, j < K ∧ x = nI j := inM_j (Nat.le_trans hK (by omega)) h

def m_isOf (N : Nat) (K : Nat) (B : Nat → Nat → Int32) (Q : Nat → Nat → Int32) (x srt : Int32) : Int32 := (if (m_isThing N K B Q x) = (0 : Int32) then (0 : Int32) else (if (B 0 x.toNatClampNeg) = srt then (1 : Int32) else (0 : Int32)))
set_option maxHeartbeats 4000000 in
set_option maxRecDepth 100000 in
theorem cm_isOf (l : Launch) (D : va_G) (a : Nat → Nat) (cI cZ : ClassId) (N K : Nat) (B Q : Nat → Nat → Int32) (hN : N ≤ 30) (hKK : K ≤ 10) (hC : chs N B) (hDr : drM N K B) (x srt : Int32) : Met l y_M_isOf (Cond.code y_M_isOf b_M_isOf 3 (some .boolean) :: BW) ({ frames := 2, cells := 0, slots := 0, locals := 43 } : Room) (PcR D (wM a cI cZ (nI N) (nI K) B Q) (tM cI cZ) [.ref (a 0), .int x, .int srt]) (vp_Si (fun r => r = m_isOf N K B Q x srt)) 0 0 (fun _ => False) := by
  refine roStart (by decide) rfl (Nat.le_of_ble_eq_true rfl) (fun p e s m below meth c Sx hr hlk hP hK ls hl => ?_)
  obtain ⟨hx, hb, hml, hown, hts⟩ := id Sx
  have hl : lv_has ls 3 [(0, .ref (a 0)), (1, .int x), (2, .int srt)] := hl
  refine lv_aload_n hx hb d_M_isOf_0 rfl (lv_at hl 0 rfl) ?_
  refine lv_iload_n hx hb d_M_isOf_1 rfl (lv_at hl 1 rfl) ?_
  refine xro (As := [.int x]) (rest := []) Sx (cm_isThing l D a cI cZ N K B Q hN hKK hC hDr x) v_M_isThing ⟨rfl, rfl, Nat.le_of_ble_eq_true rfl, Nat.le_of_ble_eq_true rfl⟩ hK hP (ci := 1) (q0 := 0) rfl rfl rfl hl.1 rfl (Nat.le_of_ble_eq_true rfl) d_M_isOf_2 ⟨Nat.le_of_ble_eq_true rfl, Nat.le_of_ble_eq_true rfl⟩ (fun r hq => ?_)
  subst hq
  refine lv_if_eq (tgt := 22) hx hb d_M_isOf_5 (by decide) (fun c_5 => ?_) (fun c_5 => ?_)
  · refine lv_iconst (v := (0 : Int32)) hx hb d_M_isOf_22 (by decide) ?_
    exact roRet hx hb hr (by first | rfl | decide) hlk (show (0 : Int32) = m_isOf N K B Q x srt from by rw [m_isOf, if_pos c_5]) d_M_isOf_23
  · refine lv_aload_n hx hb d_M_isOf_8 rfl (lv_at hl 0 rfl) ?_
    refine va_get (D := D) (ci := 1) (v := .ref (a 1)) (C := R_M) (T := F_M) (N := 16) hx hb hts i_M hown hK hP 0 rfl rfl 1 (by decide) (hts _ fl_M_7) (fun _ h9 => h9) rfl d_M_isOf_9 ?_
    refine lv_iload_n hx hb d_M_isOf_12 rfl (lv_at hl 1 rfl) ?_
    refine va_iald (n := 30) hx hb hK hP 1 0 rfl rfl (th_in hN (isThingM_j hN c_5)) d_M_isOf_13 ?_
    refine lv_iload_n hx hb d_M_isOf_14 rfl (lv_at hl 2 rfl) ?_
    refine lv_icmp_ne (tgt := 22) hx hb d_M_isOf_15 (by decide) (fun c_15 => ?_) (fun c_15 => ?_)
    · refine lv_iconst (v := (0 : Int32)) hx hb d_M_isOf_22 (by decide) ?_
      exact roRet hx hb hr (by first | rfl | decide) hlk (show (0 : Int32) = m_isOf N K B Q x srt from by rw [m_isOf, if_neg c_5, if_neg c_15]) d_M_isOf_23
    · refine lv_iconst (v := (1 : Int32)) hx hb d_M_isOf_18 (by decide) ?_
      refine lv_goto (tgt := 23) hx hb d_M_isOf_19 (by decide) ?_
      exact roRet hx hb hr (by first | rfl | decide) hlk (show (1 : Int32) = m_isOf N K B Q x srt from by rw [m_isOf, if_neg c_5, if_pos c_15]) d_M_isOf_23
theorem isOfM_s {N K : Nat} {B Q : Nat → Nat → Int32} {x srt : Int32} (h : ¬ m_isOf N K B Q x srt = (0 : Int32)) : ¬ m_isThing N K B Q x = (0 : Int32) ∧ B 0 x.toNatClampNeg = srt := by
  rw [m_isOf] at h
  by_cases c1 : m_isThing N K B Q x = (0 : Int32)
  · rw [if_pos c1] at h; exact absurd rfl h
  · rw [if_neg c1] at h
    by_cases c2 : B 0 x.toNatClampNeg = srt
    · exact ⟨c1, c2⟩
    · rw [if_neg c2] at h; exact absurd rfl h
theorem isOfM_j {N K : Nat} {B Q : Nat → Nat → Int32} {x srt : Int32} (hN : N ≤ 30) (h : ¬ m_isOf N K B Q x srt = (0 : Int32)) : ∃ j : Nat, j < N ∧ x = nI j := isThingM_j hN (isOfM_s h).1

def m_isSpace (N : Nat) (K : Nat) (B : Nat → Nat → Int32) (Q : Nat → Nat → Int32) (x : Int32) : Int32 := (if (m_isOf N K B Q x (0 : Int32)) = (0 : Int32) then (if (m_isOf N K B Q x (1 : Int32)) = (0 : Int32) then (0 : Int32) else (1 : Int32)) else (1 : Int32))
set_option maxHeartbeats 4000000 in
set_option maxRecDepth 100000 in
theorem cm_isSpace (l : Launch) (D : va_G) (a : Nat → Nat) (cI cZ : ClassId) (N K : Nat) (B Q : Nat → Nat → Int32) (hN : N ≤ 30) (hKK : K ≤ 10) (hC : chs N B) (hDr : drM N K B) (x : Int32) : Met l y_M_isSpace (Cond.code y_M_isSpace b_M_isSpace 2 (some .boolean) :: BW) ({ frames := 3, cells := 0, slots := 0, locals := 65 } : Room) (PcR D (wM a cI cZ (nI N) (nI K) B Q) (tM cI cZ) [.ref (a 0), .int x]) (vp_Si (fun r => r = m_isSpace N K B Q x)) 0 0 (fun _ => False) := by
  refine roStart (by decide) rfl (Nat.le_of_ble_eq_true rfl) (fun p e s m below meth c Sx hr hlk hP hK ls hl => ?_)
  obtain ⟨hx, hb, hml, hown, hts⟩ := id Sx
  have hl : lv_has ls 2 [(0, .ref (a 0)), (1, .int x)] := hl
  refine lv_aload_n hx hb d_M_isSpace_0 rfl (lv_at hl 0 rfl) ?_
  refine lv_iload_n hx hb d_M_isSpace_1 rfl (lv_at hl 1 rfl) ?_
  refine lv_iconst (v := (0 : Int32)) hx hb d_M_isSpace_2 (by decide) ?_
  refine xro (As := [.int x, .int (0 : Int32)]) (rest := []) Sx (cm_isOf l D a cI cZ N K B Q hN hKK hC hDr x (0 : Int32)) v_M_isOf ⟨rfl, rfl, Nat.le_of_ble_eq_true rfl, Nat.le_of_ble_eq_true rfl⟩ hK hP (ci := 1) (q0 := 0) rfl rfl rfl hl.1 rfl (Nat.le_of_ble_eq_true rfl) d_M_isSpace_3 ⟨Nat.le_of_ble_eq_true rfl, Nat.le_of_ble_eq_true rfl⟩ (fun r hq => ?_)
  subst hq
  refine lv_if_ne (tgt := 18) hx hb d_M_isSpace_6 (by decide) (fun c_6 => ?_) (fun c_6 => ?_)
  · refine lv_iconst (v := (1 : Int32)) hx hb d_M_isSpace_18 (by decide) ?_
    refine lv_goto (tgt := 23) hx hb d_M_isSpace_19 (by decide) ?_
    exact roRet hx hb hr (by first | rfl | decide) hlk (show (1 : Int32) = m_isSpace N K B Q x from by rw [m_isSpace, if_neg c_6]) d_M_isSpace_23
  · refine lv_aload_n hx hb d_M_isSpace_9 rfl (lv_at hl 0 rfl) ?_
    refine lv_iload_n hx hb d_M_isSpace_10 rfl (lv_at hl 1 rfl) ?_
    refine lv_iconst (v := (1 : Int32)) hx hb d_M_isSpace_11 (by decide) ?_
    refine xro (As := [.int x, .int (1 : Int32)]) (rest := []) Sx (cm_isOf l D a cI cZ N K B Q hN hKK hC hDr x (1 : Int32)) v_M_isOf ⟨rfl, rfl, Nat.le_of_ble_eq_true rfl, Nat.le_of_ble_eq_true rfl⟩ hK hP (ci := 1) (q0 := 0) rfl rfl rfl hl.1 rfl (Nat.le_of_ble_eq_true rfl) d_M_isSpace_12 ⟨Nat.le_of_ble_eq_true rfl, Nat.le_of_ble_eq_true rfl⟩ (fun r hq => ?_)
    subst hq
    refine lv_if_eq (tgt := 22) hx hb d_M_isSpace_15 (by decide) (fun c_15 => ?_) (fun c_15 => ?_)
    · refine lv_iconst (v := (0 : Int32)) hx hb d_M_isSpace_22 (by decide) ?_
      exact roRet hx hb hr (by first | rfl | decide) hlk (show (0 : Int32) = m_isSpace N K B Q x from by rw [m_isSpace, if_pos c_6, if_pos c_15]) d_M_isSpace_23
    · refine lv_iconst (v := (1 : Int32)) hx hb d_M_isSpace_18 (by decide) ?_
      refine lv_goto (tgt := 23) hx hb d_M_isSpace_19 (by decide) ?_
      exact roRet hx hb hr (by first | rfl | decide) hlk (show (1 : Int32) = m_isSpace N K B Q x from by rw [m_isSpace, if_pos c_6, if_neg c_15]) d_M_isSpace_23
theorem isSpaceM_s {N K : Nat} {B Q : Nat → Nat → Int32} {x : Int32} (h : ¬ m_isSpace N K B Q x = (0 : Int32)) : ¬ m_isOf N K B Q x (0 : Int32) = (0 : Int32) ∨ ¬ m_isOf N K B Q x (1 : Int32) = (0 : Int32) := by
  rw [m_isSpace] at h
  by_cases c1 : m_isOf N K B Q x (0 : Int32) = (0 : Int32)
  · rw [if_pos c1] at h
    by_cases c2 : m_isOf N K B Q x (1 : Int32) = (0 : Int32)
    · rw [if_pos c2] at h; exact absurd rfl h
    · exact Or.inr c2
  · exact Or.inl c1
theorem isSpaceM_j {N K : Nat} {B Q : Nat → Nat → Int32} {x : Int32} (hN : N ≤ 30) (h : ¬ m_isSpace N K B Q x = (0 : Int32)) : ∃ j : Nat, j < N ∧ x = nI j := (isSpaceM_s h).elim (isOfM_j hN) (isOfM_j hN)

def m_isWithin_7 (N : Nat) (K : Nat) (B : Nat → Nat → Int32) (Q : Nat → Nat → Int32) (y : Int32) : Nat → Int32 → Int32
  | 0, v3 => (0 : Int32)
  | k + 1, v3 => (if v3 = (-1 : Int32) then (if v3 = y then (if y = (-1 : Int32) then (0 : Int32) else (1 : Int32)) else (0 : Int32)) else (if v3 = y then (if y = (-1 : Int32) then (0 : Int32) else (1 : Int32)) else m_isWithin_7 N K B Q y k (B 1 v3.toNatClampNeg)))
theorem m_isWithin_7_0 (N : Nat) (K : Nat) (B : Nat → Nat → Int32) (Q : Nat → Nat → Int32) (y : Int32) (v3 : Int32) : m_isWithin_7 N K B Q y 0 v3 = (0 : Int32) := rfl
theorem m_isWithin_7_S (N : Nat) (K : Nat) (B : Nat → Nat → Int32) (Q : Nat → Nat → Int32) (y : Int32) (k : Nat) (v3 : Int32) : m_isWithin_7 N K B Q y (k + 1) v3 = (if v3 = (-1 : Int32) then (if v3 = y then (if y = (-1 : Int32) then (0 : Int32) else (1 : Int32)) else (0 : Int32)) else (if v3 = y then (if y = (-1 : Int32) then (0 : Int32) else (1 : Int32)) else m_isWithin_7 N K B Q y k (B 1 v3.toNatClampNeg))) := rfl
set_option maxHeartbeats 4000000 in
set_option maxRecDepth 100000 in
theorem wm_isWithin_7 (l : Launch) (D : va_G) (a : Nat → Nat) (cI cZ : ClassId) (N K : Nat) (B Q : Nat → Nat → Int32) (hN : N ≤ 30) (hKK : K ≤ 10) (hC : chs N B) (hDr : drM N K B) (x : Int32) (y : Int32) (h_x : ∃ j : Nat, j < N ∧ x = nI j) {p : Program} {e : Env} {s : State} {m : MethodId} {below : List Frame} {meth : Method} {c : Code} (Sx : CallFix p m c b_M_isWithin 4 s ([.ref (a 0), .int x, .int y] : List Value).toArray BW R_M) (hr : meth.sig.returnType = (some .boolean)) (hlk : meth.locks = false) (hP : va_P D classes (wM a cI cZ (nI N) (nI K) B Q) s.heap) (hK : va_K D classes (tM cI cZ) s) : ∀ (k : Nat), ∀ (v3 : Int32) (ls : Array Slot), chp N (B 1) k v3 → lv_has ls 4 [(0, .ref (a 0)), (1, .int x), (2, .int y), (3, .int v3)] → W p l e ({ frames := 0, cells := 0, slots := 0, locals := 0 } : Room) s m ([.ref (a 0), .int x, .int y] : List Value).toArray below meth c s.heap [] 0 0 (MQ below (vp_Si (fun r => r = m_isWithin_7 N K B Q y k v3)) ([.ref (a 0), .int x, .int y] : List Value).toArray s 0 0 (fun _ => False)) (F0 m 7 ls []) := by
  obtain ⟨hx, hb, hml, hown, hts⟩ := id Sx
  intro k
  induction k with
  | zero =>
    intro v3 ls hv hl
    exact absurd hv (chp_0)
  | succ k ih =>
    intro v3 ls hv hl
    refine lv_iload_n hx hb d_M_isWithin_7 rfl (lv_at hl 3 rfl) ?_
    refine lv_iconst (v := (-1 : Int32)) hx hb d_M_isWithin_8 (by decide) ?_
    refine lv_icmp_eq (tgt := 27) hx hb d_M_isWithin_9 (by decide) (fun c_9 => ?_) (fun c_9 => ?_)
    · refine lv_iload_n hx hb d_M_isWithin_27 rfl (lv_at hl 3 rfl) ?_
      refine lv_iload_n hx hb d_M_isWithin_28 rfl (lv_at hl 2 rfl) ?_
      refine lv_icmp_ne (tgt := 41) hx hb d_M_isWithin_29 (by decide) (fun c_29 => ?_) (fun c_29 => ?_)
      · refine lv_iconst (v := (0 : Int32)) hx hb d_M_isWithin_41 (by decide) ?_
        exact roRet hx hb hr (by first | rfl | decide) hlk (show (0 : Int32) = m_isWithin_7 N K B Q y (k + 1) v3 from by rw [m_isWithin_7_S, if_pos c_9, if_neg c_29]) d_M_isWithin_42
      · refine lv_iload_n hx hb d_M_isWithin_32 rfl (lv_at hl 2 rfl) ?_
        refine lv_iconst (v := (-1 : Int32)) hx hb d_M_isWithin_33 (by decide) ?_
        refine lv_icmp_eq (tgt := 41) hx hb d_M_isWithin_34 (by decide) (fun c_34 => ?_) (fun c_34 => ?_)
        · refine lv_iconst (v := (0 : Int32)) hx hb d_M_isWithin_41 (by decide) ?_
          exact roRet hx hb hr (by first | rfl | decide) hlk (show (0 : Int32) = m_isWithin_7 N K B Q y (k + 1) v3 from by rw [m_isWithin_7_S, if_pos c_9, if_pos c_29, if_pos c_34]) d_M_isWithin_42
        · refine lv_iconst (v := (1 : Int32)) hx hb d_M_isWithin_37 (by decide) ?_
          refine lv_goto (tgt := 42) hx hb d_M_isWithin_38 (by decide) ?_
          exact roRet hx hb hr (by first | rfl | decide) hlk (show (1 : Int32) = m_isWithin_7 N K B Q y (k + 1) v3 from by rw [m_isWithin_7_S, if_pos c_9, if_pos c_29, if_neg c_34]) d_M_isWithin_42
    · refine lv_iload_n hx hb d_M_isWithin_12 rfl (lv_at hl 3 rfl) ?_
      refine lv_iload_n hx hb d_M_isWithin_13 rfl (lv_at hl 2 rfl) ?_
      refine lv_icmp_eq (tgt := 27) hx hb d_M_isWithin_14 (by decide) (fun c_14 => ?_) (fun c_14 => ?_)
      · refine lv_iload_n hx hb d_M_isWithin_27 rfl (lv_at hl 3 rfl) ?_
        refine lv_iload_n hx hb d_M_isWithin_28 rfl (lv_at hl 2 rfl) ?_
        refine lv_icmp_ne (tgt := 41) hx hb d_M_isWithin_29 (by decide) (fun c_29 => absurd c_14 c_29) (fun c_29 => ?_)
        refine lv_iload_n hx hb d_M_isWithin_32 rfl (lv_at hl 2 rfl) ?_
        refine lv_iconst (v := (-1 : Int32)) hx hb d_M_isWithin_33 (by decide) ?_
        refine lv_icmp_eq (tgt := 41) hx hb d_M_isWithin_34 (by decide) (fun c_34 => ?_) (fun c_34 => ?_)
        · refine lv_iconst (v := (0 : Int32)) hx hb d_M_isWithin_41 (by decide) ?_
          exact roRet hx hb hr (by first | rfl | decide) hlk (show (0 : Int32) = m_isWithin_7 N K B Q y (k + 1) v3 from by rw [m_isWithin_7_S, if_neg c_9, if_pos c_14, if_pos c_34]) d_M_isWithin_42
        · refine lv_iconst (v := (1 : Int32)) hx hb d_M_isWithin_37 (by decide) ?_
          refine lv_goto (tgt := 42) hx hb d_M_isWithin_38 (by decide) ?_
          exact roRet hx hb hr (by first | rfl | decide) hlk (show (1 : Int32) = m_isWithin_7 N K B Q y (k + 1) v3 from by rw [m_isWithin_7_S, if_neg c_9, if_pos c_14, if_neg c_34]) d_M_isWithin_42
      · refine lv_aload_n hx hb d_M_isWithin_17 rfl (lv_at hl 0 rfl) ?_
        refine va_get (D := D) (ci := 1) (v := .ref (a 2)) (C := R_M) (T := F_M) (N := 16) hx hb hts i_M hown hK hP 0 rfl rfl 2 (by decide) (hts _ fl_M_13) (fun _ h9 => h9) rfl d_M_isWithin_18 ?_
        refine lv_iload_n hx hb d_M_isWithin_21 rfl (lv_at hl 3 rfl) ?_
        refine va_iald (n := 30) hx hb hK hP 2 0 rfl rfl (chp_in hN hv c_9) d_M_isWithin_22 ?_
        refine lv_istore_n (lv' := [(3, .int (B 1 v3.toNatClampNeg)), (0, .ref (a 0)), (1, .int x), (2, .int y)]) hx hb d_M_isWithin_23 rfl hl (by decide) rfl (fun ls hl => ?_)
        refine lv_goto (tgt := 7) hx hb d_M_isWithin_24 (by decide) ?_
        have e_b : m_isWithin_7 N K B Q y (k + 1) v3 = m_isWithin_7 N K B Q y k (B 1 v3.toNatClampNeg) := by rw [m_isWithin_7_S, if_neg c_9, if_neg c_14]
        rw [e_b]
        exact ih (B 1 v3.toNatClampNeg) ls (chp_next hN hv c_9) (lv_sub hl [1, 2, 3, 0] rfl)
def m_isWithin (N : Nat) (K : Nat) (B : Nat → Nat → Int32) (Q : Nat → Nat → Int32) (x y : Int32) : Int32 := m_isWithin_7 N K B Q y 30 (B 1 x.toNatClampNeg)
set_option maxHeartbeats 4000000 in
set_option maxRecDepth 100000 in
theorem cm_isWithin (l : Launch) (D : va_G) (a : Nat → Nat) (cI cZ : ClassId) (N K : Nat) (B Q : Nat → Nat → Int32) (hN : N ≤ 30) (hKK : K ≤ 10) (hC : chs N B) (hDr : drM N K B) (x y : Int32) (h_x : ∃ j : Nat, j < N ∧ x = nI j) : Met l y_M_isWithin (Cond.code y_M_isWithin b_M_isWithin 4 (some .boolean) :: BW) ({ frames := 0, cells := 0, slots := 0, locals := 0 } : Room) (PcR D (wM a cI cZ (nI N) (nI K) B Q) (tM cI cZ) [.ref (a 0), .int x, .int y]) (vp_Si (fun r => r = m_isWithin N K B Q x y)) 0 0 (fun _ => False) := by
  refine roStart (by decide) rfl (Nat.le_of_ble_eq_true rfl) (fun p e s m below meth c Sx hr hlk hP hK ls hl => ?_)
  obtain ⟨hx, hb, hml, hown, hts⟩ := id Sx
  have hl : lv_has ls 4 [(0, .ref (a 0)), (1, .int x), (2, .int y)] := hl
  refine lv_aload_n hx hb d_M_isWithin_0 rfl (lv_at hl 0 rfl) ?_
  refine va_get (D := D) (ci := 1) (v := .ref (a 2)) (C := R_M) (T := F_M) (N := 16) hx hb hts i_M hown hK hP 0 rfl rfl 2 (by decide) (hts _ fl_M_13) (fun _ h9 => h9) rfl d_M_isWithin_1 ?_
  refine lv_iload_n hx hb d_M_isWithin_4 rfl (lv_at hl 1 rfl) ?_
  refine va_iald (n := 30) hx hb hK hP 2 0 rfl rfl (th_in hN (h_x)) d_M_isWithin_5 ?_
  refine lv_istore_n (lv' := [(3, .int (B 1 x.toNatClampNeg)), (0, .ref (a 0)), (1, .int x), (2, .int y)]) hx hb d_M_isWithin_6 rfl hl (by decide) rfl (fun ls hl => ?_)
  have e_7 : m_isWithin N K B Q x y = m_isWithin_7 N K B Q y 30 (B 1 x.toNatClampNeg) := by rw [m_isWithin]
  rw [e_7]
  exact wm_isWithin_7 l D a cI cZ N K B Q hN hKK hC hDr x y h_x Sx hr hlk hP hK 30 (B 1 x.toNatClampNeg) ls (chs_at hN hC h_x) (lv_sub hl [1, 2, 3, 0] rfl)
theorem isWithin_7_hit {N K : Nat} {B Q : Nat → Nat → Int32} {y : Int32} (hN : N ≤ 30) : ∀ (k : Nat) (v : Int32), chp N (B 1) k v → ¬ m_isWithin_7 N K B Q y k v = (0 : Int32) → hit N (B 1) (k + 1) v y := by
  intro k
  induction k with
  | zero => intro v hc h; exact absurd rfl h
  | succ k ih =>
    intro v hc h
    rw [m_isWithin_7_S] at h
    by_cases c2 : v = y
    · exact Or.inl c2
    · by_cases c1 : v = (-1 : Int32)
      · rw [if_pos c1, if_neg c2] at h; exact absurd rfl h
      · rw [if_neg c1, if_neg c2] at h
        obtain ⟨j, h1, h2, h3⟩ := chp_dec hc c1
        rw [h2, nI_clamp (by omega)] at h
        exact Or.inr ⟨j, h1, h2, ih _ h3 h⟩
theorem hit_of {N K : Nat} {B Q : Nat → Nat → Int32} {x t : Int32} (hN : N ≤ 30) (hC : chs N B) (hx : ∃ j : Nat, j < N ∧ x = nI j) (h : ¬ m_isWithin N K B Q x t = (0 : Int32)) : hit N (B 1) 31 (B 1 x.toNatClampNeg) t := isWithin_7_hit hN 30 _ (chs_at hN hC hx) h

def m_heldBy_4 (N : Nat) (K : Nat) (B : Nat → Nat → Int32) (Q : Nat → Nat → Int32) (y : Int32) : Nat → Nat → Int32 → Int32
  | 0, i, v2 => v2
  | k + 1, i, v2 => (if (B 1 i) = y then m_heldBy_4 N K B Q y k (i + 1) (v2 + (1 : Int32)) else m_heldBy_4 N K B Q y k (i + 1) (v2 + (0 : Int32)))
theorem m_heldBy_4_0 (N : Nat) (K : Nat) (B : Nat → Nat → Int32) (Q : Nat → Nat → Int32) (y : Int32) (i : Nat) (v2 : Int32) : m_heldBy_4 N K B Q y 0 i v2 = v2 := rfl
theorem m_heldBy_4_S (N : Nat) (K : Nat) (B : Nat → Nat → Int32) (Q : Nat → Nat → Int32) (y : Int32) (k : Nat) (i : Nat) (v2 : Int32) : m_heldBy_4 N K B Q y (k + 1) i v2 = (if (B 1 i) = y then m_heldBy_4 N K B Q y k (i + 1) (v2 + (1 : Int32)) else m_heldBy_4 N K B Q y k (i + 1) (v2 + (0 : Int32))) := rfl
set_option maxHeartbeats 4000000 in
set_option maxRecDepth 100000 in
theorem wm_heldBy_4 (l : Launch) (D : va_G) (a : Nat → Nat) (cI cZ : ClassId) (N K : Nat) (B Q : Nat → Nat → Int32) (hN : N ≤ 30) (hKK : K ≤ 10) (hC : chs N B) (hDr : drM N K B) (y : Int32) {p : Program} {e : Env} {s : State} {m : MethodId} {below : List Frame} {meth : Method} {c : Code} (Sx : CallFix p m c b_M_heldBy 4 s ([.ref (a 0), .int y] : List Value).toArray BW R_M) (hr : meth.sig.returnType = (some .int)) (hlk : meth.locks = false) (hP : va_P D classes (wM a cI cZ (nI N) (nI K) B Q) s.heap) (hK : va_K D classes (tM cI cZ) s) : ∀ (k i : Nat), i + k = N → ∀ (v2 : Int32) (ls : Array Slot), lv_has ls 4 [(0, .ref (a 0)), (1, .int y), (2, .int v2), (3, .int (nI i))] → W p l e ({ frames := 0, cells := 0, slots := 0, locals := 0 } : Room) s m ([.ref (a 0), .int y] : List Value).toArray below meth c s.heap [] 0 0 (MQ below (vp_Si (fun r => r = m_heldBy_4 N K B Q y k i v2)) ([.ref (a 0), .int y] : List Value).toArray s 0 0 (fun _ => False)) (F0 m 4 ls []) := by
  obtain ⟨hx, hb, hml, hown, hts⟩ := id Sx
  intro k
  induction k with
  | zero =>
    intro i hi v2 ls hl
    refine lv_iload_n hx hb d_M_heldBy_4 rfl (lv_at hl 3 rfl) ?_
    refine lv_aload_n hx hb d_M_heldBy_5 rfl (lv_at hl 0 rfl) ?_
    refine va_get (D := D) (ci := 1) (v := .int (nI N)) (C := R_M) (T := F_M) (N := 16) hx hb hts i_M hown hK hP 0 rfl rfl 0 (by decide) (hts _ fl_M_47) (fun _ h9 => h9) rfl d_M_heldBy_6 ?_
    refine lv_icmp_ge (tgt := 36) hx hb d_M_heldBy_9 (by decide) (fun c_9 => ?_) (fun c_9 => absurd (nI_le (a := N) (b := i) (by omega) (by omega)) c_9)
    refine lv_iload_n hx hb d_M_heldBy_36 rfl (lv_at hl 2 rfl) ?_
    exact roRet hx hb hr rfl hlk (show v2 = m_heldBy_4 N K B Q y 0 i v2 from by rw [m_heldBy_4_0]) d_M_heldBy_37
  | succ k ih =>
    intro i hi v2 ls hl
    refine lv_iload_n hx hb d_M_heldBy_4 rfl (lv_at hl 3 rfl) ?_
    refine lv_aload_n hx hb d_M_heldBy_5 rfl (lv_at hl 0 rfl) ?_
    refine va_get (D := D) (ci := 1) (v := .int (nI N)) (C := R_M) (T := F_M) (N := 16) hx hb hts i_M hown hK hP 0 rfl rfl 0 (by decide) (hts _ fl_M_47) (fun _ h9 => h9) rfl d_M_heldBy_6 ?_
    refine lv_icmp_ge (tgt := 36) hx hb d_M_heldBy_9 (by decide) (fun c_9 => absurd c_9 (nI_ge (a := i) (b := N) (by omega) (by omega))) (fun c_9 => ?_)
    refine lv_iload_n hx hb d_M_heldBy_12 rfl (lv_at hl 2 rfl) ?_
    refine lv_aload_n hx hb d_M_heldBy_13 rfl (lv_at hl 0 rfl) ?_
    refine va_get (D := D) (ci := 1) (v := .ref (a 2)) (C := R_M) (T := F_M) (N := 16) hx hb hts i_M hown hK hP 0 rfl rfl 2 (by decide) (hts _ fl_M_13) (fun _ h9 => h9) rfl d_M_heldBy_14 ?_
    refine lv_iload_n hx hb d_M_heldBy_17 rfl (lv_at hl 3 rfl) ?_
    refine x_ialdN (n := 30) hx hb hK hP 2 0 rfl rfl (by omega) (by omega) d_M_heldBy_18 ?_
    refine lv_iload_n hx hb d_M_heldBy_19 rfl (lv_at hl 1 rfl) ?_
    refine lv_icmp_ne (tgt := 27) hx hb d_M_heldBy_20 (by decide) (fun c_20 => ?_) (fun c_20 => ?_)
    · refine lv_iconst (v := (0 : Int32)) hx hb d_M_heldBy_27 (by decide) ?_
      refine lv_iadd hx hb d_M_heldBy_28 ?_
      refine lv_istore_n (lv' := [(2, .int (v2 + (0 : Int32))), (0, .ref (a 0)), (1, .int y), (3, .int (nI i))]) hx hb d_M_heldBy_29 rfl hl (by decide) rfl (fun ls hl => ?_)
      refine lv_iinc (v := nI (i + 1)) (lv' := [(3, .int (nI (i + 1))), (2, .int (v2 + (0 : Int32))), (0, .ref (a 0)), (1, .int y)]) hx hb d_M_heldBy_30 hl (k := 3) rfl (nI_1 i) (by decide) rfl (fun ls hl => ?_)
      refine lv_goto (tgt := 4) hx hb d_M_heldBy_33 (by decide) ?_
      have e_b : m_heldBy_4 N K B Q y (k + 1) i v2 = m_heldBy_4 N K B Q y k (i + 1) (v2 + (0 : Int32)) := by rw [m_heldBy_4_S, if_neg c_20]
      rw [e_b]
      exact ih (i + 1) (by omega) (v2 + (0 : Int32)) ls (lv_sub hl [2, 3, 1, 0] rfl)
    · refine lv_iconst (v := (1 : Int32)) hx hb d_M_heldBy_23 (by decide) ?_
      refine lv_goto (tgt := 28) hx hb d_M_heldBy_24 (by decide) ?_
      refine lv_iadd hx hb d_M_heldBy_28 ?_
      refine lv_istore_n (lv' := [(2, .int (v2 + (1 : Int32))), (0, .ref (a 0)), (1, .int y), (3, .int (nI i))]) hx hb d_M_heldBy_29 rfl hl (by decide) rfl (fun ls hl => ?_)
      refine lv_iinc (v := nI (i + 1)) (lv' := [(3, .int (nI (i + 1))), (2, .int (v2 + (1 : Int32))), (0, .ref (a 0)), (1, .int y)]) hx hb d_M_heldBy_30 hl (k := 3) rfl (nI_1 i) (by decide) rfl (fun ls hl => ?_)
      refine lv_goto (tgt := 4) hx hb d_M_heldBy_33 (by decide) ?_
      have e_b : m_heldBy_4 N K B Q y (k + 1) i v2 = m_heldBy_4 N K B Q y k (i + 1) (v2 + (1 : Int32)) := by rw [m_heldBy_4_S, if_pos c_20]
      rw [e_b]
      exact ih (i + 1) (by omega) (v2 + (1 : Int32)) ls (lv_sub hl [2, 3, 1, 0] rfl)
def m_heldBy (N : Nat) (K : Nat) (B : Nat → Nat → Int32) (Q : Nat → Nat → Int32) (y : Int32) : Int32 := m_heldBy_4 N K B Q y N 0 (0 : Int32)
set_option maxHeartbeats 4000000 in
set_option maxRecDepth 100000 in
theorem cm_heldBy (l : Launch) (D : va_G) (a : Nat → Nat) (cI cZ : ClassId) (N K : Nat) (B Q : Nat → Nat → Int32) (hN : N ≤ 30) (hKK : K ≤ 10) (hC : chs N B) (hDr : drM N K B) (y : Int32) : Met l y_M_heldBy (Cond.code y_M_heldBy b_M_heldBy 4 (some .int) :: BW) ({ frames := 0, cells := 0, slots := 0, locals := 0 } : Room) (PcR D (wM a cI cZ (nI N) (nI K) B Q) (tM cI cZ) [.ref (a 0), .int y]) (vp_Si (fun r => r = m_heldBy N K B Q y)) 0 0 (fun _ => False) := by
  refine roStart (by decide) rfl (Nat.le_of_ble_eq_true rfl) (fun p e s m below meth c Sx hr hlk hP hK ls hl => ?_)
  obtain ⟨hx, hb, hml, hown, hts⟩ := id Sx
  have hl : lv_has ls 4 [(0, .ref (a 0)), (1, .int y)] := hl
  refine lv_iconst (v := (0 : Int32)) hx hb d_M_heldBy_0 (by decide) ?_
  refine lv_istore_n (lv' := [(2, .int (0 : Int32)), (0, .ref (a 0)), (1, .int y)]) hx hb d_M_heldBy_1 rfl hl (by decide) rfl (fun ls hl => ?_)
  refine lv_iconst (v := (0 : Int32)) hx hb d_M_heldBy_2 (by decide) ?_
  refine lv_istore_n (lv' := [(3, .int (0 : Int32)), (2, .int (0 : Int32)), (0, .ref (a 0)), (1, .int y)]) hx hb d_M_heldBy_3 rfl hl (by decide) rfl (fun ls hl => ?_)
  have e_4 : m_heldBy N K B Q y = m_heldBy_4 N K B Q y N 0 (0 : Int32) := by rw [m_heldBy]
  rw [e_4]
  exact wm_heldBy_4 l D a cI cZ N K B Q hN hKK hC hDr y Sx hr hlk hP hK N 0 (by omega) (0 : Int32) ls (lv_sub hl [2, 3, 1, 0] rfl)

def m_hasRoom (N : Nat) (K : Nat) (B : Nat → Nat → Int32) (Q : Nat → Nat → Int32) (y : Int32) : Int32 := (if (B 0 y.toNatClampNeg) = (0 : Int32) then (1 : Int32) else (if (8 : Int32) ≤ (m_heldBy N K B Q y) then (0 : Int32) else (1 : Int32)))
set_option maxHeartbeats 4000000 in
set_option maxRecDepth 100000 in
theorem cm_hasRoom (l : Launch) (D : va_G) (a : Nat → Nat) (cI cZ : ClassId) (N K : Nat) (B Q : Nat → Nat → Int32) (hN : N ≤ 30) (hKK : K ≤ 10) (hC : chs N B) (hDr : drM N K B) (y : Int32) (h_x : ∃ j : Nat, j < N ∧ y = nI j) : Met l y_M_hasRoom (Cond.code y_M_hasRoom b_M_hasRoom 2 (some .boolean) :: BW) ({ frames := 1, cells := 0, slots := 0, locals := 23 } : Room) (PcR D (wM a cI cZ (nI N) (nI K) B Q) (tM cI cZ) [.ref (a 0), .int y]) (vp_Si (fun r => r = m_hasRoom N K B Q y)) 0 0 (fun _ => False) := by
  refine roStart (by decide) rfl (Nat.le_of_ble_eq_true rfl) (fun p e s m below meth c Sx hr hlk hP hK ls hl => ?_)
  obtain ⟨hx, hb, hml, hown, hts⟩ := id Sx
  have hl : lv_has ls 2 [(0, .ref (a 0)), (1, .int y)] := hl
  refine lv_aload_n hx hb d_M_hasRoom_0 rfl (lv_at hl 0 rfl) ?_
  refine va_get (D := D) (ci := 1) (v := .ref (a 1)) (C := R_M) (T := F_M) (N := 16) hx hb hts i_M hown hK hP 0 rfl rfl 1 (by decide) (hts _ fl_M_7) (fun _ h9 => h9) rfl d_M_hasRoom_1 ?_
  refine lv_iload_n hx hb d_M_hasRoom_4 rfl (lv_at hl 1 rfl) ?_
  refine va_iald (n := 30) hx hb hK hP 1 0 rfl rfl (th_in hN (h_x)) d_M_hasRoom_5 ?_
  refine lv_if_eq (tgt := 19) hx hb d_M_hasRoom_6 (by decide) (fun c_6 => ?_) (fun c_6 => ?_)
  · refine lv_iconst (v := (1 : Int32)) hx hb d_M_hasRoom_19 (by decide) ?_
    refine lv_goto (tgt := 24) hx hb d_M_hasRoom_20 (by decide) ?_
    exact roRet hx hb hr (by first | rfl | decide) hlk (show (1 : Int32) = m_hasRoom N K B Q y from by rw [m_hasRoom, if_pos c_6]) d_M_hasRoom_24
  · refine lv_aload_n hx hb d_M_hasRoom_9 rfl (lv_at hl 0 rfl) ?_
    refine lv_iload_n hx hb d_M_hasRoom_10 rfl (lv_at hl 1 rfl) ?_
    refine xro (As := [.int y]) (rest := []) Sx (cm_heldBy l D a cI cZ N K B Q hN hKK hC hDr y) v_M_heldBy ⟨rfl, rfl, Nat.le_of_ble_eq_true rfl, Nat.le_of_ble_eq_true rfl⟩ hK hP (ci := 1) (q0 := 0) rfl rfl rfl hl.1 rfl (Nat.le_of_ble_eq_true rfl) d_M_hasRoom_11 ⟨Nat.le_of_ble_eq_true rfl, Nat.le_of_ble_eq_true rfl⟩ (fun r hq => ?_)
    subst hq
    refine lv_bipush (v := (8 : Int32)) hx hb d_M_hasRoom_14 (by decide) ?_
    refine lv_icmp_ge (tgt := 23) hx hb d_M_hasRoom_16 (by decide) (fun c_16 => ?_) (fun c_16 => ?_)
    · refine lv_iconst (v := (0 : Int32)) hx hb d_M_hasRoom_23 (by decide) ?_
      exact roRet hx hb hr (by first | rfl | decide) hlk (show (0 : Int32) = m_hasRoom N K B Q y from by rw [m_hasRoom, if_neg c_6, if_pos c_16]) d_M_hasRoom_24
    · refine lv_iconst (v := (1 : Int32)) hx hb d_M_hasRoom_19 (by decide) ?_
      refine lv_goto (tgt := 24) hx hb d_M_hasRoom_20 (by decide) ?_
      exact roRet hx hb hr (by first | rfl | decide) hlk (show (1 : Int32) = m_hasRoom N K B Q y from by rw [m_hasRoom, if_neg c_6, if_neg c_16]) d_M_hasRoom_24

def m_isShut (N : Nat) (K : Nat) (B : Nat → Nat → Int32) (Q : Nat → Nat → Int32) (x : Int32) : Int32 := (if (B 0 x.toNatClampNeg) = (1 : Int32) then (if (B 2 ((4 : Int32) * x).toNatClampNeg) = (0 : Int32) then (1 : Int32) else (0 : Int32)) else (0 : Int32))
set_option maxHeartbeats 4000000 in
set_option maxRecDepth 100000 in
theorem cm_isShut (l : Launch) (D : va_G) (a : Nat → Nat) (cI cZ : ClassId) (N K : Nat) (B Q : Nat → Nat → Int32) (hN : N ≤ 30) (hKK : K ≤ 10) (hC : chs N B) (hDr : drM N K B) (x : Int32) (h_x : ∃ j : Nat, j < N ∧ x = nI j) : Met l y_M_isShut (Cond.code y_M_isShut b_M_isShut 2 (some .boolean) :: BW) ({ frames := 0, cells := 0, slots := 0, locals := 0 } : Room) (PcR D (wM a cI cZ (nI N) (nI K) B Q) (tM cI cZ) [.ref (a 0), .int x]) (vp_Si (fun r => r = m_isShut N K B Q x)) 0 0 (fun _ => False) := by
  refine roStart (by decide) rfl (Nat.le_of_ble_eq_true rfl) (fun p e s m below meth c Sx hr hlk hP hK ls hl => ?_)
  obtain ⟨hx, hb, hml, hown, hts⟩ := id Sx
  have hl : lv_has ls 2 [(0, .ref (a 0)), (1, .int x)] := hl
  refine lv_aload_n hx hb d_M_isShut_0 rfl (lv_at hl 0 rfl) ?_
  refine va_get (D := D) (ci := 1) (v := .ref (a 1)) (C := R_M) (T := F_M) (N := 16) hx hb hts i_M hown hK hP 0 rfl rfl 1 (by decide) (hts _ fl_M_7) (fun _ h9 => h9) rfl d_M_isShut_1 ?_
  refine lv_iload_n hx hb d_M_isShut_4 rfl (lv_at hl 1 rfl) ?_
  refine va_iald (n := 30) hx hb hK hP 1 0 rfl rfl (th_in hN (h_x)) d_M_isShut_5 ?_
  refine lv_iconst (v := (1 : Int32)) hx hb d_M_isShut_6 (by decide) ?_
  refine lv_icmp_ne (tgt := 25) hx hb d_M_isShut_7 (by decide) (fun c_7 => ?_) (fun c_7 => ?_)
  · refine lv_iconst (v := (0 : Int32)) hx hb d_M_isShut_25 (by decide) ?_
    exact roRet hx hb hr (by first | rfl | decide) hlk (show (0 : Int32) = m_isShut N K B Q x from by rw [m_isShut, if_neg c_7]) d_M_isShut_26
  · refine lv_aload_n hx hb d_M_isShut_10 rfl (lv_at hl 0 rfl) ?_
    refine va_get (D := D) (ci := 1) (v := .ref (a 3)) (C := R_M) (T := F_M) (N := 16) hx hb hts i_M hown hK hP 0 rfl rfl 3 (by decide) (hts _ fl_M_16) (fun _ h9 => h9) rfl d_M_isShut_11 ?_
    refine lv_iconst (v := (4 : Int32)) hx hb d_M_isShut_14 (by decide) ?_
    refine lv_iload_n hx hb d_M_isShut_15 rfl (lv_at hl 1 rfl) ?_
    refine lv_imul hx hb d_M_isShut_16 ?_
    refine va_iald (n := 120) hx hb hK hP 3 0 rfl rfl (st0_in hN (h_x)) d_M_isShut_17 ?_
    refine lv_if_ne (tgt := 25) hx hb d_M_isShut_18 (by decide) (fun c_18 => ?_) (fun c_18 => ?_)
    · refine lv_iconst (v := (0 : Int32)) hx hb d_M_isShut_25 (by decide) ?_
      exact roRet hx hb hr (by first | rfl | decide) hlk (show (0 : Int32) = m_isShut N K B Q x from by rw [m_isShut, if_pos c_7, if_neg c_18]) d_M_isShut_26
    · refine lv_iconst (v := (1 : Int32)) hx hb d_M_isShut_21 (by decide) ?_
      refine lv_goto (tgt := 26) hx hb d_M_isShut_22 (by decide) ?_
      exact roRet hx hb hr (by first | rfl | decide) hlk (show (1 : Int32) = m_isShut N K B Q x from by rw [m_isShut, if_pos c_7, if_pos c_18]) d_M_isShut_26

def m_spaceOf_18 (N : Nat) (K : Nat) (B : Nat → Nat → Int32) (Q : Nat → Nat → Int32) : Nat → Int32 → Int32
  | 0, v2 => (0 : Int32)
  | k + 1, v2 => (if v2 = (-1 : Int32) then v2 else (if (m_isSpace N K B Q v2) = (0 : Int32) then m_spaceOf_18 N K B Q k (B 1 v2.toNatClampNeg) else v2))
theorem m_spaceOf_18_0 (N : Nat) (K : Nat) (B : Nat → Nat → Int32) (Q : Nat → Nat → Int32) (v2 : Int32) : m_spaceOf_18 N K B Q 0 v2 = (0 : Int32) := rfl
theorem m_spaceOf_18_S (N : Nat) (K : Nat) (B : Nat → Nat → Int32) (Q : Nat → Nat → Int32) (k : Nat) (v2 : Int32) : m_spaceOf_18 N K B Q (k + 1) v2 = (if v2 = (-1 : Int32) then v2 else (if (m_isSpace N K B Q v2) = (0 : Int32) then m_spaceOf_18 N K B Q k (B 1 v2.toNatClampNeg) else v2)) := rfl
set_option maxHeartbeats 4000000 in
set_option maxRecDepth 100000 in
theorem wm_spaceOf_18 (l : Launch) (D : va_G) (a : Nat → Nat) (cI cZ : ClassId) (N K : Nat) (B Q : Nat → Nat → Int32) (hN : N ≤ 30) (hKK : K ≤ 10) (hC : chs N B) (hDr : drM N K B) (x : Int32) (h_x : ∃ j : Nat, j < N ∧ x = nI j) {p : Program} {e : Env} {s : State} {m : MethodId} {below : List Frame} {meth : Method} {c : Code} (Sx : CallFix p m c b_M_spaceOf 3 s ([.ref (a 0), .int x] : List Value).toArray BW R_M) (hr : meth.sig.returnType = (some .int)) (hlk : meth.locks = false) (hP : va_P D classes (wM a cI cZ (nI N) (nI K) B Q) s.heap) (hK : va_K D classes (tM cI cZ) s) : ∀ (k : Nat), ∀ (v2 : Int32) (ls : Array Slot), chp N (B 1) k v2 → lv_has ls 3 [(0, .ref (a 0)), (1, .int x), (2, .int v2)] → W p l e ({ frames := 4, cells := 0, slots := 0, locals := 86 } : Room) s m ([.ref (a 0), .int x] : List Value).toArray below meth c s.heap [] 0 0 (MQ below (vp_Si (fun r => r = m_spaceOf_18 N K B Q k v2)) ([.ref (a 0), .int x] : List Value).toArray s 0 0 (fun _ => False)) (F0 m 18 ls []) := by
  obtain ⟨hx, hb, hml, hown, hts⟩ := id Sx
  intro k
  induction k with
  | zero =>
    intro v2 ls hv hl
    exact absurd hv (chp_0)
  | succ k ih =>
    intro v2 ls hv hl
    refine lv_iload_n hx hb d_M_spaceOf_18 rfl (lv_at hl 2 rfl) ?_
    refine lv_iconst (v := (-1 : Int32)) hx hb d_M_spaceOf_19 (by decide) ?_
    refine lv_icmp_eq (tgt := 41) hx hb d_M_spaceOf_20 (by decide) (fun c_20 => ?_) (fun c_20 => ?_)
    · refine lv_iload_n hx hb d_M_spaceOf_41 rfl (lv_at hl 2 rfl) ?_
      exact roRet hx hb hr rfl hlk (show v2 = m_spaceOf_18 N K B Q (k + 1) v2 from by rw [m_spaceOf_18_S, if_pos c_20]) d_M_spaceOf_42
    · refine lv_aload_n hx hb d_M_spaceOf_23 rfl (lv_at hl 0 rfl) ?_
      refine lv_iload_n hx hb d_M_spaceOf_24 rfl (lv_at hl 2 rfl) ?_
      refine xro (As := [.int v2]) (rest := []) Sx (cm_isSpace l D a cI cZ N K B Q hN hKK hC hDr v2) v_M_isSpace ⟨rfl, rfl, Nat.le_of_ble_eq_true rfl, Nat.le_of_ble_eq_true rfl⟩ hK hP (ci := 1) (q0 := 0) rfl rfl rfl hl.1 rfl (Nat.le_of_ble_eq_true rfl) d_M_spaceOf_25 ⟨Nat.le_of_ble_eq_true rfl, Nat.le_of_ble_eq_true rfl⟩ (fun r hq => ?_)
      subst hq
      refine lv_if_ne (tgt := 41) hx hb d_M_spaceOf_28 (by decide) (fun c_28 => ?_) (fun c_28 => ?_)
      · refine lv_iload_n hx hb d_M_spaceOf_41 rfl (lv_at hl 2 rfl) ?_
        exact roRet hx hb hr rfl hlk (show v2 = m_spaceOf_18 N K B Q (k + 1) v2 from by rw [m_spaceOf_18_S, if_neg c_20, if_neg c_28]) d_M_spaceOf_42
      · refine lv_aload_n hx hb d_M_spaceOf_31 rfl (lv_at hl 0 rfl) ?_
        refine va_get (D := D) (ci := 1) (v := .ref (a 2)) (C := R_M) (T := F_M) (N := 16) hx hb hts i_M hown hK hP 0 rfl rfl 2 (by decide) (hts _ fl_M_13) (fun _ h9 => h9) rfl d_M_spaceOf_32 ?_
        refine lv_iload_n hx hb d_M_spaceOf_35 rfl (lv_at hl 2 rfl) ?_
        refine va_iald (n := 30) hx hb hK hP 2 0 rfl rfl (chp_in hN hv c_20) d_M_spaceOf_36 ?_
        refine lv_istore_n (lv' := [(2, .int (B 1 v2.toNatClampNeg)), (0, .ref (a 0)), (1, .int x)]) hx hb d_M_spaceOf_37 rfl hl (by decide) rfl (fun ls hl => ?_)
        refine lv_goto (tgt := 18) hx hb d_M_spaceOf_38 (by decide) ?_
        have e_b : m_spaceOf_18 N K B Q (k + 1) v2 = m_spaceOf_18 N K B Q k (B 1 v2.toNatClampNeg) := by rw [m_spaceOf_18_S, if_neg c_20, if_pos c_28]
        rw [e_b]
        exact ih (B 1 v2.toNatClampNeg) ls (chp_next hN hv c_20) (lv_sub hl [1, 2, 0] rfl)
def m_spaceOf (N : Nat) (K : Nat) (B : Nat → Nat → Int32) (Q : Nat → Nat → Int32) (x : Int32) : Int32 := (if (B 0 x.toNatClampNeg) = (0 : Int32) then x else m_spaceOf_18 N K B Q 30 (B 1 x.toNatClampNeg))
set_option maxHeartbeats 4000000 in
set_option maxRecDepth 100000 in
theorem cm_spaceOf (l : Launch) (D : va_G) (a : Nat → Nat) (cI cZ : ClassId) (N K : Nat) (B Q : Nat → Nat → Int32) (hN : N ≤ 30) (hKK : K ≤ 10) (hC : chs N B) (hDr : drM N K B) (x : Int32) (h_x : ∃ j : Nat, j < N ∧ x = nI j) : Met l y_M_spaceOf (Cond.code y_M_spaceOf b_M_spaceOf 3 (some .int) :: BW) ({ frames := 4, cells := 0, slots := 0, locals := 86 } : Room) (PcR D (wM a cI cZ (nI N) (nI K) B Q) (tM cI cZ) [.ref (a 0), .int x]) (vp_Si (fun r => r = m_spaceOf N K B Q x)) 0 0 (fun _ => False) := by
  refine roStart (by decide) rfl (Nat.le_of_ble_eq_true rfl) (fun p e s m below meth c Sx hr hlk hP hK ls hl => ?_)
  obtain ⟨hx, hb, hml, hown, hts⟩ := id Sx
  have hl : lv_has ls 3 [(0, .ref (a 0)), (1, .int x)] := hl
  refine lv_aload_n hx hb d_M_spaceOf_0 rfl (lv_at hl 0 rfl) ?_
  refine va_get (D := D) (ci := 1) (v := .ref (a 1)) (C := R_M) (T := F_M) (N := 16) hx hb hts i_M hown hK hP 0 rfl rfl 1 (by decide) (hts _ fl_M_7) (fun _ h9 => h9) rfl d_M_spaceOf_1 ?_
  refine lv_iload_n hx hb d_M_spaceOf_4 rfl (lv_at hl 1 rfl) ?_
  refine va_iald (n := 30) hx hb hK hP 1 0 rfl rfl (th_in hN (h_x)) d_M_spaceOf_5 ?_
  refine lv_if_ne (tgt := 11) hx hb d_M_spaceOf_6 (by decide) (fun c_6 => ?_) (fun c_6 => ?_)
  · refine lv_aload_n hx hb d_M_spaceOf_11 rfl (lv_at hl 0 rfl) ?_
    refine va_get (D := D) (ci := 1) (v := .ref (a 2)) (C := R_M) (T := F_M) (N := 16) hx hb hts i_M hown hK hP 0 rfl rfl 2 (by decide) (hts _ fl_M_13) (fun _ h9 => h9) rfl d_M_spaceOf_12 ?_
    refine lv_iload_n hx hb d_M_spaceOf_15 rfl (lv_at hl 1 rfl) ?_
    refine va_iald (n := 30) hx hb hK hP 2 0 rfl rfl (th_in hN (h_x)) d_M_spaceOf_16 ?_
    refine lv_istore_n (lv' := [(2, .int (B 1 x.toNatClampNeg)), (0, .ref (a 0)), (1, .int x)]) hx hb d_M_spaceOf_17 rfl hl (by decide) rfl (fun ls hl => ?_)
    have e_18 : m_spaceOf N K B Q x = m_spaceOf_18 N K B Q 30 (B 1 x.toNatClampNeg) := by rw [m_spaceOf, if_neg c_6]
    rw [e_18]
    exact wm_spaceOf_18 l D a cI cZ N K B Q hN hKK hC hDr x h_x Sx hr hlk hP hK 30 (B 1 x.toNatClampNeg) ls (chs_at hN hC h_x) (lv_sub hl [1, 2, 0] rfl)
  · refine lv_iload_n hx hb d_M_spaceOf_9 rfl (lv_at hl 1 rfl) ?_
    exact roRet hx hb hr rfl hlk (show x = m_spaceOf N K B Q x from by rw [m_spaceOf, if_pos c_6]) d_M_spaceOf_10
theorem spaceOf_18_j {N K : Nat} {B Q : Nat → Nat → Int32} (hN : N ≤ 30) : ∀ (k : Nat) (v : Int32), chp N (B 1) k v → ¬ m_spaceOf_18 N K B Q k v = (-1 : Int32) → ∃ j : Nat, j < N ∧ m_spaceOf_18 N K B Q k v = nI j := by
  intro k
  induction k with
  | zero => intro v hc; exact absurd hc chp_0
  | succ k ih =>
    intro v hc h
    rw [m_spaceOf_18_S] at h ⊢
    by_cases c1 : v = (-1 : Int32)
    · rw [if_pos c1] at h; exact absurd c1 h
    · rw [if_neg c1] at h ⊢
      by_cases c2 : m_isSpace N K B Q v = (0 : Int32)
      · rw [if_pos c2] at h ⊢; exact ih _ (chp_next hN hc c1) h
      · rw [if_neg c2]; exact chp_j hc c1
theorem spaceOfM_j {N K : Nat} {B Q : Nat → Nat → Int32} {x : Int32} (hN : N ≤ 30) (hC : chs N B) (hx : ∃ j : Nat, j < N ∧ x = nI j) (h : ¬ m_spaceOf N K B Q x = (-1 : Int32)) : ∃ j : Nat, j < N ∧ m_spaceOf N K B Q x = nI j := by
  rw [m_spaceOf] at h ⊢
  by_cases c : B 0 x.toNatClampNeg = (0 : Int32)
  · rw [if_pos c]; exact hx
  · rw [if_neg c] at h ⊢; exact spaceOf_18_j hN 30 _ (chs_at hN hC hx) h

def m_firstBarrier_43 (N : Nat) (K : Nat) (B : Nat → Nat → Int32) (Q : Nat → Nat → Int32) : Nat → Int32
  | 0 => (-1 : Int32)
  | k + 1 => (if (m_isShut N K B Q (Q 1 k)) = (0 : Int32) then (if (B 0 (Q 1 k).toNatClampNeg) = (3 : Int32) then Q 1 k else m_firstBarrier_43 N K B Q k) else Q 1 k)
theorem m_firstBarrier_43_0 (N : Nat) (K : Nat) (B : Nat → Nat → Int32) (Q : Nat → Nat → Int32) : m_firstBarrier_43 N K B Q 0 = (-1 : Int32) := rfl
theorem m_firstBarrier_43_S (N : Nat) (K : Nat) (B : Nat → Nat → Int32) (Q : Nat → Nat → Int32) (k : Nat) : m_firstBarrier_43 N K B Q (k + 1) = (if (m_isShut N K B Q (Q 1 k)) = (0 : Int32) then (if (B 0 (Q 1 k).toNatClampNeg) = (3 : Int32) then Q 1 k else m_firstBarrier_43 N K B Q k) else Q 1 k) := rfl
set_option maxHeartbeats 4000000 in
set_option maxRecDepth 100000 in
theorem wm_firstBarrier_43 (l : Launch) (D : va_G) (a : Nat → Nat) (cI cZ : ClassId) (N K : Nat) (B Q : Nat → Nat → Int32) (hN : N ≤ 30) (hKK : K ≤ 10) (hC : chs N B) (hDr : drM N K B) (hO : Q 5 0 = nI (Q 5 0).toNatClampNeg) (hO3 : (Q 5 0).toNatClampNeg ≤ 30) (hI : Q 5 1 = nI (Q 5 1).toNatClampNeg) (hI3 : (Q 5 1).toNatClampNeg ≤ 30) (hWo : ∀ k : Nat, k < (Q 5 0).toNatClampNeg → ∃ j : Nat, j < N ∧ Q 0 k = nI j) (hWi : ∀ k : Nat, k < (Q 5 1).toNatClampNeg → ∃ j : Nat, j < N ∧ Q 1 k = nI j) {p : Program} {e : Env} {s : State} {m : MethodId} {below : List Frame} {meth : Method} {c : Code} (Sx : CallFix p m c b_M_firstBarrier 2 s ([.ref (a 0)] : List Value).toArray BW R_M) (hr : meth.sig.returnType = (some .int)) (hlk : meth.locks = false) (hP : va_P D classes (wM a cI cZ (nI N) (nI K) B Q) s.heap) (hK : va_K D classes (tM cI cZ) s) : ∀ (k : Nat), ∀ (ls : Array Slot), k ≤ (Q 5 1).toNatClampNeg → lv_has ls 2 [(0, .ref (a 0)), (1, .int (dI k))] → W p l e ({ frames := 1, cells := 0, slots := 0, locals := 21 } : Room) s m ([.ref (a 0)] : List Value).toArray below meth c s.heap [] 0 0 (MQ below (vp_Si (fun r => r = m_firstBarrier_43 N K B Q k)) ([.ref (a 0)] : List Value).toArray s 0 0 (fun _ => False)) (F0 m 43 ls []) := by
  obtain ⟨hx, hb, hml, hown, hts⟩ := id Sx
  intro k
  induction k with
  | zero =>
    intro ls hv hl
    refine lv_iload_n hx hb d_M_firstBarrier_43 rfl (lv_at hl 1 rfl) ?_
    refine lv_if_lt (tgt := 88) hx hb d_M_firstBarrier_44 (by decide) (fun c_44 => ?_) (fun c_44 => absurd dI_0 c_44)
    refine lv_iconst (v := (-1 : Int32)) hx hb d_M_firstBarrier_88 (by decide) ?_
    exact roRet hx hb hr rfl hlk (show (-1 : Int32) = m_firstBarrier_43 N K B Q 0 from by rw [m_firstBarrier_43_0]) d_M_firstBarrier_89
  | succ k ih =>
    intro ls hv hl
    rw [dI_S] at hl
    refine lv_iload_n hx hb d_M_firstBarrier_43 rfl (lv_at hl 1 rfl) ?_
    refine lv_if_lt (tgt := 88) hx hb d_M_firstBarrier_44 (by decide) (fun c_44 => absurd c_44 (nI_pos (by omega))) (fun c_44 => ?_)
    refine lv_aload_n hx hb d_M_firstBarrier_47 rfl (lv_at hl 0 rfl) ?_
    refine lv_aload_n hx hb d_M_firstBarrier_48 rfl (lv_at hl 0 rfl) ?_
    refine va_get (D := D) (ci := 1) (v := .ref (a 9)) (C := R_M) (T := F_M) (N := 16) hx hb hts i_M hown hK hP 0 rfl rfl 12 (by decide) (hts _ fl_M_34) (fun _ h9 => h9) rfl d_M_firstBarrier_49 ?_
    refine lv_iload_n hx hb d_M_firstBarrier_52 rfl (lv_at hl 1 rfl) ?_
    refine x_ialdN (n := 30) hx hb hK hP 9 0 rfl rfl (by omega) (by omega) d_M_firstBarrier_53 ?_
    refine xro (As := [.int (Q 1 k)]) (rest := []) Sx (cm_isShut l D a cI cZ N K B Q hN hKK hC hDr (Q 1 k) (hWi k (by omega))) v_M_isShut ⟨rfl, rfl, Nat.le_of_ble_eq_true rfl, Nat.le_of_ble_eq_true rfl⟩ hK hP (ci := 1) (q0 := 0) rfl rfl rfl hl.1 rfl (Nat.le_of_ble_eq_true rfl) d_M_firstBarrier_54 ⟨Nat.le_of_ble_eq_true rfl, Nat.le_of_ble_eq_true rfl⟩ (fun r hq => ?_)
    subst hq
    refine lv_if_ne (tgt := 75) hx hb d_M_firstBarrier_57 (by decide) (fun c_57 => ?_) (fun c_57 => ?_)
    · refine lv_aload_n hx hb d_M_firstBarrier_75 rfl (lv_at hl 0 rfl) ?_
      refine va_get (D := D) (ci := 1) (v := .ref (a 9)) (C := R_M) (T := F_M) (N := 16) hx hb hts i_M hown hK hP 0 rfl rfl 12 (by decide) (hts _ fl_M_34) (fun _ h9 => h9) rfl d_M_firstBarrier_76 ?_
      refine lv_iload_n hx hb d_M_firstBarrier_79 rfl (lv_at hl 1 rfl) ?_
      refine x_ialdN (n := 30) hx hb hK hP 9 0 rfl rfl (by omega) (by omega) d_M_firstBarrier_80 ?_
      exact roRet hx hb hr rfl hlk (show Q 1 k = m_firstBarrier_43 N K B Q (k + 1) from by rw [m_firstBarrier_43_S, if_neg c_57]) d_M_firstBarrier_81
    · refine lv_aload_n hx hb d_M_firstBarrier_60 rfl (lv_at hl 0 rfl) ?_
      refine va_get (D := D) (ci := 1) (v := .ref (a 1)) (C := R_M) (T := F_M) (N := 16) hx hb hts i_M hown hK hP 0 rfl rfl 1 (by decide) (hts _ fl_M_7) (fun _ h9 => h9) rfl d_M_firstBarrier_61 ?_
      refine lv_aload_n hx hb d_M_firstBarrier_64 rfl (lv_at hl 0 rfl) ?_
      refine va_get (D := D) (ci := 1) (v := .ref (a 9)) (C := R_M) (T := F_M) (N := 16) hx hb hts i_M hown hK hP 0 rfl rfl 12 (by decide) (hts _ fl_M_34) (fun _ h9 => h9) rfl d_M_firstBarrier_65 ?_
      refine lv_iload_n hx hb d_M_firstBarrier_68 rfl (lv_at hl 1 rfl) ?_
      refine x_ialdN (n := 30) hx hb hK hP 9 0 rfl rfl (by omega) (by omega) d_M_firstBarrier_69 ?_
      refine va_iald (n := 30) hx hb hK hP 1 0 rfl rfl (th_in hN (hWi k (by omega))) d_M_firstBarrier_70 ?_
      refine lv_iconst (v := (3 : Int32)) hx hb d_M_firstBarrier_71 (by decide) ?_
      refine lv_icmp_ne (tgt := 82) hx hb d_M_firstBarrier_72 (by decide) (fun c_72 => ?_) (fun c_72 => ?_)
      · refine lv_iinc (v := dI k) (lv' := [(1, .int (dI k)), (0, .ref (a 0))]) hx hb d_M_firstBarrier_82 hl (k := 1) rfl (dI_step k) (by decide) rfl (fun ls hl => ?_)
        refine lv_goto (tgt := 43) hx hb d_M_firstBarrier_85 (by decide) ?_
        have e_b : m_firstBarrier_43 N K B Q (k + 1) = m_firstBarrier_43 N K B Q k := by rw [m_firstBarrier_43_S, if_pos c_57, if_neg c_72]
        rw [e_b]
        exact ih ls (by omega) (lv_sub hl [1, 0] rfl)
      · refine lv_aload_n hx hb d_M_firstBarrier_75 rfl (lv_at hl 0 rfl) ?_
        refine va_get (D := D) (ci := 1) (v := .ref (a 9)) (C := R_M) (T := F_M) (N := 16) hx hb hts i_M hown hK hP 0 rfl rfl 12 (by decide) (hts _ fl_M_34) (fun _ h9 => h9) rfl d_M_firstBarrier_76 ?_
        refine lv_iload_n hx hb d_M_firstBarrier_79 rfl (lv_at hl 1 rfl) ?_
        refine x_ialdN (n := 30) hx hb hK hP 9 0 rfl rfl (by omega) (by omega) d_M_firstBarrier_80 ?_
        exact roRet hx hb hr rfl hlk (show Q 1 k = m_firstBarrier_43 N K B Q (k + 1) from by rw [m_firstBarrier_43_S, if_pos c_57, if_pos c_72]) d_M_firstBarrier_81
def m_firstBarrier_2 (N : Nat) (K : Nat) (B : Nat → Nat → Int32) (Q : Nat → Nat → Int32) : Nat → Nat → Int32
  | 0, i => m_firstBarrier_43 N K B Q ((Q 5 1).toNatClampNeg)
  | k + 1, i => (if (m_isShut N K B Q (Q 0 i)) = (0 : Int32) then m_firstBarrier_2 N K B Q k (i + 1) else Q 0 i)
theorem m_firstBarrier_2_0 (N : Nat) (K : Nat) (B : Nat → Nat → Int32) (Q : Nat → Nat → Int32) (i : Nat) : m_firstBarrier_2 N K B Q 0 i = m_firstBarrier_43 N K B Q ((Q 5 1).toNatClampNeg) := rfl
theorem m_firstBarrier_2_S (N : Nat) (K : Nat) (B : Nat → Nat → Int32) (Q : Nat → Nat → Int32) (k : Nat) (i : Nat) : m_firstBarrier_2 N K B Q (k + 1) i = (if (m_isShut N K B Q (Q 0 i)) = (0 : Int32) then m_firstBarrier_2 N K B Q k (i + 1) else Q 0 i) := rfl
set_option maxHeartbeats 4000000 in
set_option maxRecDepth 100000 in
theorem wm_firstBarrier_2 (l : Launch) (D : va_G) (a : Nat → Nat) (cI cZ : ClassId) (N K : Nat) (B Q : Nat → Nat → Int32) (hN : N ≤ 30) (hKK : K ≤ 10) (hC : chs N B) (hDr : drM N K B) (hO : Q 5 0 = nI (Q 5 0).toNatClampNeg) (hO3 : (Q 5 0).toNatClampNeg ≤ 30) (hI : Q 5 1 = nI (Q 5 1).toNatClampNeg) (hI3 : (Q 5 1).toNatClampNeg ≤ 30) (hWo : ∀ k : Nat, k < (Q 5 0).toNatClampNeg → ∃ j : Nat, j < N ∧ Q 0 k = nI j) (hWi : ∀ k : Nat, k < (Q 5 1).toNatClampNeg → ∃ j : Nat, j < N ∧ Q 1 k = nI j) {p : Program} {e : Env} {s : State} {m : MethodId} {below : List Frame} {meth : Method} {c : Code} (Sx : CallFix p m c b_M_firstBarrier 2 s ([.ref (a 0)] : List Value).toArray BW R_M) (hr : meth.sig.returnType = (some .int)) (hlk : meth.locks = false) (hP : va_P D classes (wM a cI cZ (nI N) (nI K) B Q) s.heap) (hK : va_K D classes (tM cI cZ) s) : ∀ (k i : Nat), i + k = (Q 5 0).toNatClampNeg → ∀ (ls : Array Slot), lv_has ls 2 [(0, .ref (a 0)), (1, .int (nI i))] → W p l e ({ frames := 1, cells := 0, slots := 0, locals := 21 } : Room) s m ([.ref (a 0)] : List Value).toArray below meth c s.heap [] 0 0 (MQ below (vp_Si (fun r => r = m_firstBarrier_2 N K B Q k i)) ([.ref (a 0)] : List Value).toArray s 0 0 (fun _ => False)) (F0 m 2 ls []) := by
  obtain ⟨hx, hb, hml, hown, hts⟩ := id Sx
  intro k
  induction k with
  | zero =>
    intro i hi ls hl
    refine lv_iload_n hx hb d_M_firstBarrier_2 rfl (lv_at hl 1 rfl) ?_
    refine lv_aload_n hx hb d_M_firstBarrier_3 rfl (lv_at hl 0 rfl) ?_
    refine va_get (D := D) (ci := 1) (v := .int (Q 5 0)) (C := R_M) (T := F_M) (N := 16) hx hb hts i_M hown hK hP 0 rfl rfl 9 (by decide) (hts _ fl_M_79) (fun _ h9 => h9) rfl d_M_firstBarrier_4 ?_
    refine lv_icmp_ge (tgt := 36) hx hb d_M_firstBarrier_7 (by decide) (fun c_7 => ?_) (fun c_7 => absurd (by rw [hO]; exact nI_le (a := (Q 5 0).toNatClampNeg) (b := i) (by omega) (by omega)) c_7)
    refine lv_aload_n hx hb d_M_firstBarrier_36 rfl (lv_at hl 0 rfl) ?_
    refine va_get (D := D) (ci := 1) (v := .int (Q 5 1)) (C := R_M) (T := F_M) (N := 16) hx hb hts i_M hown hK hP 0 rfl rfl 10 (by decide) (hts _ fl_M_82) (fun _ h9 => h9) rfl d_M_firstBarrier_37 ?_
    refine lv_iconst (v := (1 : Int32)) hx hb d_M_firstBarrier_40 (by decide) ?_
    refine lv_isub hx hb d_M_firstBarrier_41 ?_
    refine lv_istore_n (lv' := [(1, .int ((Q 5 1) - (1 : Int32))), (0, .ref (a 0))]) hx hb d_M_firstBarrier_42 rfl hl (by decide) rfl (fun ls hl => ?_)
    have e_43 : m_firstBarrier_2 N K B Q 0 i = m_firstBarrier_43 N K B Q ((Q 5 1).toNatClampNeg) := by rw [m_firstBarrier_2_0]
    rw [e_43]
    exact wm_firstBarrier_43 l D a cI cZ N K B Q hN hKK hC hDr hO hO3 hI hI3 hWo hWi Sx hr hlk hP hK ((Q 5 1).toNatClampNeg) ls (Nat.le_refl _) (by have h9 := lv_sub (l' := [(0, .ref (a 0)), (1, .int ((Q 5 1) - (1 : Int32)))]) hl [1, 0] rfl; rw [dI_of hI] at h9; exact h9)
  | succ k ih =>
    intro i hi ls hl
    refine lv_iload_n hx hb d_M_firstBarrier_2 rfl (lv_at hl 1 rfl) ?_
    refine lv_aload_n hx hb d_M_firstBarrier_3 rfl (lv_at hl 0 rfl) ?_
    refine va_get (D := D) (ci := 1) (v := .int (Q 5 0)) (C := R_M) (T := F_M) (N := 16) hx hb hts i_M hown hK hP 0 rfl rfl 9 (by decide) (hts _ fl_M_79) (fun _ h9 => h9) rfl d_M_firstBarrier_4 ?_
    refine lv_icmp_ge (tgt := 36) hx hb d_M_firstBarrier_7 (by decide) (fun c_7 => absurd c_7 (by rw [hO]; exact nI_ge (a := i) (b := (Q 5 0).toNatClampNeg) (by omega) (by omega))) (fun c_7 => ?_)
    refine lv_aload_n hx hb d_M_firstBarrier_10 rfl (lv_at hl 0 rfl) ?_
    refine lv_aload_n hx hb d_M_firstBarrier_11 rfl (lv_at hl 0 rfl) ?_
    refine va_get (D := D) (ci := 1) (v := .ref (a 8)) (C := R_M) (T := F_M) (N := 16) hx hb hts i_M hown hK hP 0 rfl rfl 11 (by decide) (hts _ fl_M_31) (fun _ h9 => h9) rfl d_M_firstBarrier_12 ?_
    refine lv_iload_n hx hb d_M_firstBarrier_15 rfl (lv_at hl 1 rfl) ?_
    refine x_ialdN (n := 30) hx hb hK hP 8 0 rfl rfl (by omega) (by omega) d_M_firstBarrier_16 ?_
    refine xro (As := [.int (Q 0 i)]) (rest := []) Sx (cm_isShut l D a cI cZ N K B Q hN hKK hC hDr (Q 0 i) (hWo i (by omega))) v_M_isShut ⟨rfl, rfl, Nat.le_of_ble_eq_true rfl, Nat.le_of_ble_eq_true rfl⟩ hK hP (ci := 1) (q0 := 0) rfl rfl rfl hl.1 rfl (Nat.le_of_ble_eq_true rfl) d_M_firstBarrier_17 ⟨Nat.le_of_ble_eq_true rfl, Nat.le_of_ble_eq_true rfl⟩ (fun r hq => ?_)
    subst hq
    refine lv_if_eq (tgt := 30) hx hb d_M_firstBarrier_20 (by decide) (fun c_20 => ?_) (fun c_20 => ?_)
    · refine lv_iinc (v := nI (i + 1)) (lv' := [(1, .int (nI (i + 1))), (0, .ref (a 0))]) hx hb d_M_firstBarrier_30 hl (k := 1) rfl (nI_1 i) (by decide) rfl (fun ls hl => ?_)
      refine lv_goto (tgt := 2) hx hb d_M_firstBarrier_33 (by decide) ?_
      have e_b : m_firstBarrier_2 N K B Q (k + 1) i = m_firstBarrier_2 N K B Q k (i + 1) := by rw [m_firstBarrier_2_S, if_pos c_20]
      rw [e_b]
      exact ih (i + 1) (by omega) ls (lv_sub hl [1, 0] rfl)
    · refine lv_aload_n hx hb d_M_firstBarrier_23 rfl (lv_at hl 0 rfl) ?_
      refine va_get (D := D) (ci := 1) (v := .ref (a 8)) (C := R_M) (T := F_M) (N := 16) hx hb hts i_M hown hK hP 0 rfl rfl 11 (by decide) (hts _ fl_M_31) (fun _ h9 => h9) rfl d_M_firstBarrier_24 ?_
      refine lv_iload_n hx hb d_M_firstBarrier_27 rfl (lv_at hl 1 rfl) ?_
      refine x_ialdN (n := 30) hx hb hK hP 8 0 rfl rfl (by omega) (by omega) d_M_firstBarrier_28 ?_
      exact roRet hx hb hr rfl hlk (show Q 0 i = m_firstBarrier_2 N K B Q (k + 1) i from by rw [m_firstBarrier_2_S, if_neg c_20]) d_M_firstBarrier_29
def m_firstBarrier (N : Nat) (K : Nat) (B : Nat → Nat → Int32) (Q : Nat → Nat → Int32) : Int32 := m_firstBarrier_2 N K B Q ((Q 5 0).toNatClampNeg) 0
set_option maxHeartbeats 4000000 in
set_option maxRecDepth 100000 in
theorem cm_firstBarrier (l : Launch) (D : va_G) (a : Nat → Nat) (cI cZ : ClassId) (N K : Nat) (B Q : Nat → Nat → Int32) (hN : N ≤ 30) (hKK : K ≤ 10) (hC : chs N B) (hDr : drM N K B) (hO : Q 5 0 = nI (Q 5 0).toNatClampNeg) (hO3 : (Q 5 0).toNatClampNeg ≤ 30) (hI : Q 5 1 = nI (Q 5 1).toNatClampNeg) (hI3 : (Q 5 1).toNatClampNeg ≤ 30) (hWo : ∀ k : Nat, k < (Q 5 0).toNatClampNeg → ∃ j : Nat, j < N ∧ Q 0 k = nI j) (hWi : ∀ k : Nat, k < (Q 5 1).toNatClampNeg → ∃ j : Nat, j < N ∧ Q 1 k = nI j) : Met l y_M_firstBarrier (Cond.code y_M_firstBarrier b_M_firstBarrier 2 (some .int) :: BW) ({ frames := 1, cells := 0, slots := 0, locals := 21 } : Room) (PcR D (wM a cI cZ (nI N) (nI K) B Q) (tM cI cZ) [.ref (a 0)]) (vp_Si (fun r => r = m_firstBarrier N K B Q)) 0 0 (fun _ => False) := by
  refine roStart (by decide) rfl (Nat.le_of_ble_eq_true rfl) (fun p e s m below meth c Sx hr hlk hP hK ls hl => ?_)
  obtain ⟨hx, hb, hml, hown, hts⟩ := id Sx
  have hl : lv_has ls 2 [(0, .ref (a 0))] := hl
  refine lv_iconst (v := (0 : Int32)) hx hb d_M_firstBarrier_0 (by decide) ?_
  refine lv_istore_n (lv' := [(1, .int (0 : Int32)), (0, .ref (a 0))]) hx hb d_M_firstBarrier_1 rfl hl (by decide) rfl (fun ls hl => ?_)
  have e_2 : m_firstBarrier N K B Q = m_firstBarrier_2 N K B Q ((Q 5 0).toNatClampNeg) 0 := by rw [m_firstBarrier]
  rw [e_2]
  exact wm_firstBarrier_2 l D a cI cZ N K B Q hN hKK hC hDr hO hO3 hI hI3 hWo hWi Sx hr hlk hP hK ((Q 5 0).toNatClampNeg) 0 (by omega) ls (lv_sub hl [1, 0] rfl)

def m_lossOf (what dr opn clr : Int32) : Int32 := (if what = (0 : Int32) then (if opn = (0 : Int32) then (if clr = (0 : Int32) then (1000 : Int32) else (if dr = (0 : Int32) then (1 : Int32) else (3 : Int32))) else (if dr = (0 : Int32) then (0 : Int32) else (2 : Int32))) else (if opn = (0 : Int32) then (if dr = (0 : Int32) then (2 : Int32) else (3 : Int32)) else (if dr = (0 : Int32) then (0 : Int32) else (1 : Int32))))
set_option maxHeartbeats 4000000 in
set_option maxRecDepth 100000 in
theorem cm_lossOf (l : Launch) (what dr opn clr : Int32) : Met l y_M_lossOf (Cond.code y_M_lossOf b_M_lossOf 4 (some .int) :: BW) ({ frames := 0, cells := 0, slots := 0, locals := 0 } : Room) (va_Pc [.int what, .int dr, .int opn, .int clr] (fun _ => True)) (vp_Si (fun r => r = m_lossOf what dr opn clr)) 0 0 (fun _ => False) := by
  refine stStart (by decide) rfl (Nat.le_of_ble_eq_true rfl) (fun p e s m below meth c Sx hr hlk ls hl => ?_)
  obtain ⟨hx, hb, hml, hown, hts⟩ := id Sx
  have hl : lv_has ls 4 [(0, .int what), (1, .int dr), (2, .int opn), (3, .int clr)] := hl
  refine lv_iload_n hx hb d_M_lossOf_0 rfl (lv_at hl 0 rfl) ?_
  refine lv_if_ne (tgt := 40) hx hb d_M_lossOf_1 (by decide) (fun c_1 => ?_) (fun c_1 => ?_)
  · refine lv_iload_n hx hb d_M_lossOf_40 rfl (lv_at hl 2 rfl) ?_
    refine lv_if_eq (tgt := 56) hx hb d_M_lossOf_41 (by decide) (fun c_41 => ?_) (fun c_41 => ?_)
    · refine lv_iload_n hx hb d_M_lossOf_56 rfl (lv_at hl 1 rfl) ?_
      refine lv_if_eq (tgt := 64) hx hb d_M_lossOf_57 (by decide) (fun c_57 => ?_) (fun c_57 => ?_)
      · refine lv_iconst (v := (2 : Int32)) hx hb d_M_lossOf_64 (by decide) ?_
        exact roRet hx hb hr rfl hlk (show (2 : Int32) = m_lossOf what dr opn clr from by rw [m_lossOf, if_neg c_1, if_pos c_41, if_pos c_57]) d_M_lossOf_65
      · refine lv_iconst (v := (3 : Int32)) hx hb d_M_lossOf_60 (by decide) ?_
        refine lv_goto (tgt := 65) hx hb d_M_lossOf_61 (by decide) ?_
        exact roRet hx hb hr rfl hlk (show (3 : Int32) = m_lossOf what dr opn clr from by rw [m_lossOf, if_neg c_1, if_pos c_41, if_neg c_57]) d_M_lossOf_65
    · refine lv_iload_n hx hb d_M_lossOf_44 rfl (lv_at hl 1 rfl) ?_
      refine lv_if_eq (tgt := 52) hx hb d_M_lossOf_45 (by decide) (fun c_45 => ?_) (fun c_45 => ?_)
      · refine lv_iconst (v := (0 : Int32)) hx hb d_M_lossOf_52 (by decide) ?_
        refine lv_goto (tgt := 65) hx hb d_M_lossOf_53 (by decide) ?_
        exact roRet hx hb hr rfl hlk (show (0 : Int32) = m_lossOf what dr opn clr from by rw [m_lossOf, if_neg c_1, if_neg c_41, if_pos c_45]) d_M_lossOf_65
      · refine lv_iconst (v := (1 : Int32)) hx hb d_M_lossOf_48 (by decide) ?_
        refine lv_goto (tgt := 65) hx hb d_M_lossOf_49 (by decide) ?_
        exact roRet hx hb hr rfl hlk (show (1 : Int32) = m_lossOf what dr opn clr from by rw [m_lossOf, if_neg c_1, if_neg c_41, if_neg c_45]) d_M_lossOf_65
  · refine lv_iload_n hx hb d_M_lossOf_4 rfl (lv_at hl 2 rfl) ?_
    refine lv_if_eq (tgt := 20) hx hb d_M_lossOf_5 (by decide) (fun c_5 => ?_) (fun c_5 => ?_)
    · refine lv_iload_n hx hb d_M_lossOf_20 rfl (lv_at hl 3 rfl) ?_
      refine lv_if_eq (tgt := 36) hx hb d_M_lossOf_21 (by decide) (fun c_21 => ?_) (fun c_21 => ?_)
      · refine lv_sipush (v := (1000 : Int32)) hx hb d_M_lossOf_36 (by decide) ?_
        exact roRet hx hb hr rfl hlk (show (1000 : Int32) = m_lossOf what dr opn clr from by rw [m_lossOf, if_pos c_1, if_pos c_5, if_pos c_21]) d_M_lossOf_39
      · refine lv_iload_n hx hb d_M_lossOf_24 rfl (lv_at hl 1 rfl) ?_
        refine lv_if_eq (tgt := 32) hx hb d_M_lossOf_25 (by decide) (fun c_25 => ?_) (fun c_25 => ?_)
        · refine lv_iconst (v := (1 : Int32)) hx hb d_M_lossOf_32 (by decide) ?_
          refine lv_goto (tgt := 39) hx hb d_M_lossOf_33 (by decide) ?_
          exact roRet hx hb hr rfl hlk (show (1 : Int32) = m_lossOf what dr opn clr from by rw [m_lossOf, if_pos c_1, if_pos c_5, if_neg c_21, if_pos c_25]) d_M_lossOf_39
        · refine lv_iconst (v := (3 : Int32)) hx hb d_M_lossOf_28 (by decide) ?_
          refine lv_goto (tgt := 39) hx hb d_M_lossOf_29 (by decide) ?_
          exact roRet hx hb hr rfl hlk (show (3 : Int32) = m_lossOf what dr opn clr from by rw [m_lossOf, if_pos c_1, if_pos c_5, if_neg c_21, if_neg c_25]) d_M_lossOf_39
    · refine lv_iload_n hx hb d_M_lossOf_8 rfl (lv_at hl 1 rfl) ?_
      refine lv_if_eq (tgt := 16) hx hb d_M_lossOf_9 (by decide) (fun c_9 => ?_) (fun c_9 => ?_)
      · refine lv_iconst (v := (0 : Int32)) hx hb d_M_lossOf_16 (by decide) ?_
        refine lv_goto (tgt := 39) hx hb d_M_lossOf_17 (by decide) ?_
        exact roRet hx hb hr rfl hlk (show (0 : Int32) = m_lossOf what dr opn clr from by rw [m_lossOf, if_pos c_1, if_neg c_5, if_pos c_9]) d_M_lossOf_39
      · refine lv_iconst (v := (2 : Int32)) hx hb d_M_lossOf_12 (by decide) ?_
        refine lv_goto (tgt := 39) hx hb d_M_lossOf_13 (by decide) ?_
        exact roRet hx hb hr rfl hlk (show (2 : Int32) = m_lossOf what dr opn clr from by rw [m_lossOf, if_pos c_1, if_neg c_5, if_neg c_9]) d_M_lossOf_39

def m_greatest_5 (N : Nat) (K : Nat) (B : Nat → Nat → Int32) (Q : Nat → Nat → Int32) (sp : Int32) (what : Int32) : Nat → Nat → Int32 → Int32
  | 0, i, v3 => v3
  | k + 1, i, v3 => (if (m_spaceOf N K B Q (nI i)) = (-1 : Int32) then (if (0 : Int32) ≤ v3 then m_greatest_5 N K B Q sp what k (i + 1) v3 else m_greatest_5 N K B Q sp what k (i + 1) (0 : Int32)) else (if (Q 2 (((30 : Int32) * (m_spaceOf N K B Q (nI i))) + sp).toNatClampNeg) < (1000 : Int32) then (if ((B 2 ((nI ((4 * i) + 2)) + what).toNatClampNeg) - (Q 2 (((30 : Int32) * (m_spaceOf N K B Q (nI i))) + sp).toNatClampNeg)) ≤ v3 then m_greatest_5 N K B Q sp what k (i + 1) v3 else m_greatest_5 N K B Q sp what k (i + 1) ((B 2 ((nI ((4 * i) + 2)) + what).toNatClampNeg) - (Q 2 (((30 : Int32) * (m_spaceOf N K B Q (nI i))) + sp).toNatClampNeg))) else (if (0 : Int32) ≤ v3 then m_greatest_5 N K B Q sp what k (i + 1) v3 else m_greatest_5 N K B Q sp what k (i + 1) (0 : Int32))))
theorem m_greatest_5_0 (N : Nat) (K : Nat) (B : Nat → Nat → Int32) (Q : Nat → Nat → Int32) (sp : Int32) (what : Int32) (i : Nat) (v3 : Int32) : m_greatest_5 N K B Q sp what 0 i v3 = v3 := rfl
theorem m_greatest_5_S (N : Nat) (K : Nat) (B : Nat → Nat → Int32) (Q : Nat → Nat → Int32) (sp : Int32) (what : Int32) (k : Nat) (i : Nat) (v3 : Int32) : m_greatest_5 N K B Q sp what (k + 1) i v3 = (if (m_spaceOf N K B Q (nI i)) = (-1 : Int32) then (if (0 : Int32) ≤ v3 then m_greatest_5 N K B Q sp what k (i + 1) v3 else m_greatest_5 N K B Q sp what k (i + 1) (0 : Int32)) else (if (Q 2 (((30 : Int32) * (m_spaceOf N K B Q (nI i))) + sp).toNatClampNeg) < (1000 : Int32) then (if ((B 2 ((nI ((4 * i) + 2)) + what).toNatClampNeg) - (Q 2 (((30 : Int32) * (m_spaceOf N K B Q (nI i))) + sp).toNatClampNeg)) ≤ v3 then m_greatest_5 N K B Q sp what k (i + 1) v3 else m_greatest_5 N K B Q sp what k (i + 1) ((B 2 ((nI ((4 * i) + 2)) + what).toNatClampNeg) - (Q 2 (((30 : Int32) * (m_spaceOf N K B Q (nI i))) + sp).toNatClampNeg))) else (if (0 : Int32) ≤ v3 then m_greatest_5 N K B Q sp what k (i + 1) v3 else m_greatest_5 N K B Q sp what k (i + 1) (0 : Int32)))) := rfl
set_option maxHeartbeats 4000000 in
set_option maxRecDepth 100000 in
theorem wm_greatest_5 (l : Launch) (D : va_G) (a : Nat → Nat) (cI cZ : ClassId) (N K : Nat) (B Q : Nat → Nat → Int32) (hN : N ≤ 30) (hKK : K ≤ 10) (hC : chs N B) (hDr : drM N K B) (sp : Int32) (what : Int32) (hs : ∃ j : Nat, j < N ∧ sp = nI j) (hwt : ∃ k : Nat, k < 2 ∧ what = nI k) {p : Program} {e : Env} {s : State} {m : MethodId} {below : List Frame} {meth : Method} {c : Code} (Sx : CallFix p m c b_M_greatest 7 s ([.ref (a 0), .int sp, .int what] : List Value).toArray BW R_M) (hr : meth.sig.returnType = (some .int)) (hlk : meth.locks = false) (hP : va_P D classes (wM a cI cZ (nI N) (nI K) B Q) s.heap) (hK : va_K D classes (tM cI cZ) s) : ∀ (k i : Nat), i + k = N → ∀ (v3 : Int32) (ls : Array Slot), lv_has ls 7 [(0, .ref (a 0)), (1, .int sp), (2, .int what), (3, .int v3), (4, .int (nI i))] → W p l e ({ frames := 5, cells := 0, slots := 0, locals := 108 } : Room) s m ([.ref (a 0), .int sp, .int what] : List Value).toArray below meth c s.heap [] 0 0 (MQ below (vp_Si (fun r => r = m_greatest_5 N K B Q sp what k i v3)) ([.ref (a 0), .int sp, .int what] : List Value).toArray s 0 0 (fun _ => False)) (F0 m 5 ls []) := by
  obtain ⟨hx, hb, hml, hown, hts⟩ := id Sx
  intro k
  induction k with
  | zero =>
    intro i hi v3 ls hl
    refine lv_iload hx hb d_M_greatest_5 (lv_at hl 4 rfl) ?_
    refine lv_aload_n hx hb d_M_greatest_7 rfl (lv_at hl 0 rfl) ?_
    refine va_get (D := D) (ci := 1) (v := .int (nI N)) (C := R_M) (T := F_M) (N := 16) hx hb hts i_M hown hK hP 0 rfl rfl 0 (by decide) (hts _ fl_M_47) (fun _ h9 => h9) rfl d_M_greatest_8 ?_
    refine lv_icmp_ge (tgt := 97) hx hb d_M_greatest_11 (by decide) (fun c_11 => ?_) (fun c_11 => absurd (nI_le (a := N) (b := i) (by omega) (by omega)) c_11)
    refine lv_iload_n hx hb d_M_greatest_97 rfl (lv_at hl 3 rfl) ?_
    exact roRet hx hb hr rfl hlk (show v3 = m_greatest_5 N K B Q sp what 0 i v3 from by rw [m_greatest_5_0]) d_M_greatest_98
  | succ k ih =>
    intro i hi v3 ls hl
    refine lv_iload hx hb d_M_greatest_5 (lv_at hl 4 rfl) ?_
    refine lv_aload_n hx hb d_M_greatest_7 rfl (lv_at hl 0 rfl) ?_
    refine va_get (D := D) (ci := 1) (v := .int (nI N)) (C := R_M) (T := F_M) (N := 16) hx hb hts i_M hown hK hP 0 rfl rfl 0 (by decide) (hts _ fl_M_47) (fun _ h9 => h9) rfl d_M_greatest_8 ?_
    refine lv_icmp_ge (tgt := 97) hx hb d_M_greatest_11 (by decide) (fun c_11 => absurd c_11 (nI_ge (a := i) (b := N) (by omega) (by omega))) (fun c_11 => ?_)
    refine lv_aload_n hx hb d_M_greatest_14 rfl (lv_at hl 0 rfl) ?_
    refine lv_iload hx hb d_M_greatest_15 (lv_at hl 4 rfl) ?_
    refine xro (As := [.int (nI i)]) (rest := []) Sx (cm_spaceOf l D a cI cZ N K B Q hN hKK hC hDr (nI i) (⟨i, by omega, rfl⟩)) v_M_spaceOf ⟨rfl, rfl, Nat.le_of_ble_eq_true rfl, Nat.le_of_ble_eq_true rfl⟩ hK hP (ci := 1) (q0 := 0) rfl rfl rfl hl.1 rfl (Nat.le_of_ble_eq_true rfl) d_M_greatest_17 ⟨Nat.le_of_ble_eq_true rfl, Nat.le_of_ble_eq_true rfl⟩ (fun r hq => ?_)
    subst hq
    refine lv_istore (lv' := [(5, .int (m_spaceOf N K B Q (nI i))), (0, .ref (a 0)), (1, .int sp), (2, .int what), (3, .int v3), (4, .int (nI i))]) hx hb d_M_greatest_20 hl (by decide) rfl (fun ls hl => ?_)
    refine lv_iload hx hb d_M_greatest_22 (lv_at hl 0 rfl) ?_
    refine lv_iconst (v := (-1 : Int32)) hx hb d_M_greatest_24 (by decide) ?_
    refine lv_icmp_eq (tgt := 46) hx hb d_M_greatest_25 (by decide) (fun c_25 => ?_) (fun c_25 => ?_)
    · refine lv_iconst (v := (0 : Int32)) hx hb d_M_greatest_46 (by decide) ?_
      refine lv_goto (tgt := 76) hx hb d_M_greatest_47 (by decide) ?_
      refine lv_istore (lv' := [(6, .int (0 : Int32)), (5, .int (m_spaceOf N K B Q (nI i))), (0, .ref (a 0)), (1, .int sp), (2, .int what), (3, .int v3), (4, .int (nI i))]) hx hb d_M_greatest_76 hl (by decide) rfl (fun ls hl => ?_)
      refine lv_iload hx hb d_M_greatest_78 (lv_at hl 0 rfl) ?_
      refine lv_iload_n hx hb d_M_greatest_80 rfl (lv_at hl 5 rfl) ?_
      refine lv_icmp_le (tgt := 89) hx hb d_M_greatest_81 (by decide) (fun c_81 => ?_) (fun c_81 => ?_)
      · refine lv_iload_n hx hb d_M_greatest_89 rfl (lv_at hl 5 rfl) ?_
        refine lv_istore_n (lv' := [(3, .int v3), (6, .int (0 : Int32)), (5, .int (m_spaceOf N K B Q (nI i))), (0, .ref (a 0)), (1, .int sp), (2, .int what), (4, .int (nI i))]) hx hb d_M_greatest_90 rfl hl (by decide) rfl (fun ls hl => ?_)
        refine lv_iinc (v := nI (i + 1)) (lv' := [(4, .int (nI (i + 1))), (3, .int v3), (6, .int (0 : Int32)), (5, .int (m_spaceOf N K B Q (nI i))), (0, .ref (a 0)), (1, .int sp), (2, .int what)]) hx hb d_M_greatest_91 hl (k := 6) rfl (nI_1 i) (by decide) rfl (fun ls hl => ?_)
        refine lv_goto (tgt := 5) hx hb d_M_greatest_94 (by decide) ?_
        have e_b : m_greatest_5 N K B Q sp what (k + 1) i v3 = m_greatest_5 N K B Q sp what k (i + 1) v3 := by rw [m_greatest_5_S, if_pos c_25, if_pos c_81]
        rw [e_b]
        exact ih (i + 1) (by omega) v3 ls (lv_sub hl [4, 5, 6, 1, 0] rfl)
      · refine lv_iload hx hb d_M_greatest_84 (lv_at hl 0 rfl) ?_
        refine lv_goto (tgt := 90) hx hb d_M_greatest_86 (by decide) ?_
        refine lv_istore_n (lv' := [(3, .int (0 : Int32)), (6, .int (0 : Int32)), (5, .int (m_spaceOf N K B Q (nI i))), (0, .ref (a 0)), (1, .int sp), (2, .int what), (4, .int (nI i))]) hx hb d_M_greatest_90 rfl hl (by decide) rfl (fun ls hl => ?_)
        refine lv_iinc (v := nI (i + 1)) (lv' := [(4, .int (nI (i + 1))), (3, .int (0 : Int32)), (6, .int (0 : Int32)), (5, .int (m_spaceOf N K B Q (nI i))), (0, .ref (a 0)), (1, .int sp), (2, .int what)]) hx hb d_M_greatest_91 hl (k := 6) rfl (nI_1 i) (by decide) rfl (fun ls hl => ?_)
        refine lv_goto (tgt := 5) hx hb d_M_greatest_94 (by decide) ?_
        have e_b : m_greatest_5 N K B Q sp what (k + 1) i v3 = m_greatest_5 N K B Q sp what k (i + 1) (0 : Int32) := by rw [m_greatest_5_S, if_pos c_25, if_neg c_81]
        rw [e_b]
        exact ih (i + 1) (by omega) (0 : Int32) ls (lv_sub hl [4, 5, 6, 1, 0] rfl)
    · refine lv_aload_n hx hb d_M_greatest_28 rfl (lv_at hl 1 rfl) ?_
      refine va_get (D := D) (ci := 1) (v := .ref (a 10)) (C := R_M) (T := F_M) (N := 16) hx hb hts i_M hown hK hP 0 rfl rfl 13 (by decide) (hts _ fl_M_37) (fun _ h9 => h9) rfl d_M_greatest_29 ?_
      refine lv_bipush (v := (30 : Int32)) hx hb d_M_greatest_32 (by decide) ?_
      refine lv_iload hx hb d_M_greatest_34 (lv_at hl 0 rfl) ?_
      refine lv_imul hx hb d_M_greatest_36 ?_
      refine lv_iload_n hx hb d_M_greatest_37 rfl (lv_at hl 2 rfl) ?_
      refine lv_iadd hx hb d_M_greatest_38 ?_
      refine va_iald (n := 900) hx hb hK hP 10 0 rfl rfl (ls_in hN (spaceOfM_j hN hC (⟨i, by omega, rfl⟩) c_25) (hs)) d_M_greatest_39 ?_
      refine lv_sipush (v := (1000 : Int32)) hx hb d_M_greatest_40 (by decide) ?_
      refine lv_icmp_lt (tgt := 50) hx hb d_M_greatest_43 (by decide) (fun c_43 => ?_) (fun c_43 => ?_)
      · refine lv_aload_n hx hb d_M_greatest_50 rfl (lv_at hl 1 rfl) ?_
        refine va_get (D := D) (ci := 1) (v := .ref (a 3)) (C := R_M) (T := F_M) (N := 16) hx hb hts i_M hown hK hP 0 rfl rfl 3 (by decide) (hts _ fl_M_16) (fun _ h9 => h9) rfl d_M_greatest_51 ?_
        refine lv_iconst (v := (4 : Int32)) hx hb d_M_greatest_54 (by decide) ?_
        refine lv_iload hx hb d_M_greatest_55 (lv_at hl 5 rfl) ?_
        refine x_imulN 4 i rfl rfl hx hb d_M_greatest_57 ?_
        refine lv_iconst (v := (2 : Int32)) hx hb d_M_greatest_58 (by decide) ?_
        refine x_iaddN (4 * i) 2 rfl rfl hx hb d_M_greatest_59 ?_
        refine lv_iload_n hx hb d_M_greatest_60 rfl (lv_at hl 3 rfl) ?_
        refine lv_iadd hx hb d_M_greatest_61 ?_
        refine va_iald (n := 120) hx hb hK hP 3 0 rfl rfl (st2_in hN (by omega) hwt) d_M_greatest_62 ?_
        refine lv_aload_n hx hb d_M_greatest_63 rfl (lv_at hl 1 rfl) ?_
        refine va_get (D := D) (ci := 1) (v := .ref (a 10)) (C := R_M) (T := F_M) (N := 16) hx hb hts i_M hown hK hP 0 rfl rfl 13 (by decide) (hts _ fl_M_37) (fun _ h9 => h9) rfl d_M_greatest_64 ?_
        refine lv_bipush (v := (30 : Int32)) hx hb d_M_greatest_67 (by decide) ?_
        refine lv_iload hx hb d_M_greatest_69 (lv_at hl 0 rfl) ?_
        refine lv_imul hx hb d_M_greatest_71 ?_
        refine lv_iload_n hx hb d_M_greatest_72 rfl (lv_at hl 2 rfl) ?_
        refine lv_iadd hx hb d_M_greatest_73 ?_
        refine va_iald (n := 900) hx hb hK hP 10 0 rfl rfl (ls_in hN (spaceOfM_j hN hC (⟨i, by omega, rfl⟩) c_25) (hs)) d_M_greatest_74 ?_
        refine lv_isub hx hb d_M_greatest_75 ?_
        refine lv_istore (lv' := [(6, .int ((B 2 ((nI ((4 * i) + 2)) + what).toNatClampNeg) - (Q 2 (((30 : Int32) * (m_spaceOf N K B Q (nI i))) + sp).toNatClampNeg))), (5, .int (m_spaceOf N K B Q (nI i))), (0, .ref (a 0)), (1, .int sp), (2, .int what), (3, .int v3), (4, .int (nI i))]) hx hb d_M_greatest_76 hl (by decide) rfl (fun ls hl => ?_)
        refine lv_iload hx hb d_M_greatest_78 (lv_at hl 0 rfl) ?_
        refine lv_iload_n hx hb d_M_greatest_80 rfl (lv_at hl 5 rfl) ?_
        refine lv_icmp_le (tgt := 89) hx hb d_M_greatest_81 (by decide) (fun c_81 => ?_) (fun c_81 => ?_)
        · refine lv_iload_n hx hb d_M_greatest_89 rfl (lv_at hl 5 rfl) ?_
          refine lv_istore_n (lv' := [(3, .int v3), (6, .int ((B 2 ((nI ((4 * i) + 2)) + what).toNatClampNeg) - (Q 2 (((30 : Int32) * (m_spaceOf N K B Q (nI i))) + sp).toNatClampNeg))), (5, .int (m_spaceOf N K B Q (nI i))), (0, .ref (a 0)), (1, .int sp), (2, .int what), (4, .int (nI i))]) hx hb d_M_greatest_90 rfl hl (by decide) rfl (fun ls hl => ?_)
          refine lv_iinc (v := nI (i + 1)) (lv' := [(4, .int (nI (i + 1))), (3, .int v3), (6, .int ((B 2 ((nI ((4 * i) + 2)) + what).toNatClampNeg) - (Q 2 (((30 : Int32) * (m_spaceOf N K B Q (nI i))) + sp).toNatClampNeg))), (5, .int (m_spaceOf N K B Q (nI i))), (0, .ref (a 0)), (1, .int sp), (2, .int what)]) hx hb d_M_greatest_91 hl (k := 6) rfl (nI_1 i) (by decide) rfl (fun ls hl => ?_)
          refine lv_goto (tgt := 5) hx hb d_M_greatest_94 (by decide) ?_
          have e_b : m_greatest_5 N K B Q sp what (k + 1) i v3 = m_greatest_5 N K B Q sp what k (i + 1) v3 := by rw [m_greatest_5_S, if_neg c_25, if_pos c_43, if_pos c_81]
          rw [e_b]
          exact ih (i + 1) (by omega) v3 ls (lv_sub hl [4, 5, 6, 1, 0] rfl)
        · refine lv_iload hx hb d_M_greatest_84 (lv_at hl 0 rfl) ?_
          refine lv_goto (tgt := 90) hx hb d_M_greatest_86 (by decide) ?_
          refine lv_istore_n (lv' := [(3, .int ((B 2 ((nI ((4 * i) + 2)) + what).toNatClampNeg) - (Q 2 (((30 : Int32) * (m_spaceOf N K B Q (nI i))) + sp).toNatClampNeg))), (6, .int ((B 2 ((nI ((4 * i) + 2)) + what).toNatClampNeg) - (Q 2 (((30 : Int32) * (m_spaceOf N K B Q (nI i))) + sp).toNatClampNeg))), (5, .int (m_spaceOf N K B Q (nI i))), (0, .ref (a 0)), (1, .int sp), (2, .int what), (4, .int (nI i))]) hx hb d_M_greatest_90 rfl hl (by decide) rfl (fun ls hl => ?_)
          refine lv_iinc (v := nI (i + 1)) (lv' := [(4, .int (nI (i + 1))), (3, .int ((B 2 ((nI ((4 * i) + 2)) + what).toNatClampNeg) - (Q 2 (((30 : Int32) * (m_spaceOf N K B Q (nI i))) + sp).toNatClampNeg))), (6, .int ((B 2 ((nI ((4 * i) + 2)) + what).toNatClampNeg) - (Q 2 (((30 : Int32) * (m_spaceOf N K B Q (nI i))) + sp).toNatClampNeg))), (5, .int (m_spaceOf N K B Q (nI i))), (0, .ref (a 0)), (1, .int sp), (2, .int what)]) hx hb d_M_greatest_91 hl (k := 6) rfl (nI_1 i) (by decide) rfl (fun ls hl => ?_)
          refine lv_goto (tgt := 5) hx hb d_M_greatest_94 (by decide) ?_
          have e_b : m_greatest_5 N K B Q sp what (k + 1) i v3 = m_greatest_5 N K B Q sp what k (i + 1) ((B 2 ((nI ((4 * i) + 2)) + what).toNatClampNeg) - (Q 2 (((30 : Int32) * (m_spaceOf N K B Q (nI i))) + sp).toNatClampNeg)) := by rw [m_greatest_5_S, if_neg c_25, if_pos c_43, if_neg c_81]
          rw [e_b]
          exact ih (i + 1) (by omega) ((B 2 ((nI ((4 * i) + 2)) + what).toNatClampNeg) - (Q 2 (((30 : Int32) * (m_spaceOf N K B Q (nI i))) + sp).toNatClampNeg)) ls (lv_sub hl [4, 5, 6, 1, 0] rfl)
      · refine lv_iconst (v := (0 : Int32)) hx hb d_M_greatest_46 (by decide) ?_
        refine lv_goto (tgt := 76) hx hb d_M_greatest_47 (by decide) ?_
        refine lv_istore (lv' := [(6, .int (0 : Int32)), (5, .int (m_spaceOf N K B Q (nI i))), (0, .ref (a 0)), (1, .int sp), (2, .int what), (3, .int v3), (4, .int (nI i))]) hx hb d_M_greatest_76 hl (by decide) rfl (fun ls hl => ?_)
        refine lv_iload hx hb d_M_greatest_78 (lv_at hl 0 rfl) ?_
        refine lv_iload_n hx hb d_M_greatest_80 rfl (lv_at hl 5 rfl) ?_
        refine lv_icmp_le (tgt := 89) hx hb d_M_greatest_81 (by decide) (fun c_81 => ?_) (fun c_81 => ?_)
        · refine lv_iload_n hx hb d_M_greatest_89 rfl (lv_at hl 5 rfl) ?_
          refine lv_istore_n (lv' := [(3, .int v3), (6, .int (0 : Int32)), (5, .int (m_spaceOf N K B Q (nI i))), (0, .ref (a 0)), (1, .int sp), (2, .int what), (4, .int (nI i))]) hx hb d_M_greatest_90 rfl hl (by decide) rfl (fun ls hl => ?_)
          refine lv_iinc (v := nI (i + 1)) (lv' := [(4, .int (nI (i + 1))), (3, .int v3), (6, .int (0 : Int32)), (5, .int (m_spaceOf N K B Q (nI i))), (0, .ref (a 0)), (1, .int sp), (2, .int what)]) hx hb d_M_greatest_91 hl (k := 6) rfl (nI_1 i) (by decide) rfl (fun ls hl => ?_)
          refine lv_goto (tgt := 5) hx hb d_M_greatest_94 (by decide) ?_
          have e_b : m_greatest_5 N K B Q sp what (k + 1) i v3 = m_greatest_5 N K B Q sp what k (i + 1) v3 := by rw [m_greatest_5_S, if_neg c_25, if_neg c_43, if_pos c_81]
          rw [e_b]
          exact ih (i + 1) (by omega) v3 ls (lv_sub hl [4, 5, 6, 1, 0] rfl)
        · refine lv_iload hx hb d_M_greatest_84 (lv_at hl 0 rfl) ?_
          refine lv_goto (tgt := 90) hx hb d_M_greatest_86 (by decide) ?_
          refine lv_istore_n (lv' := [(3, .int (0 : Int32)), (6, .int (0 : Int32)), (5, .int (m_spaceOf N K B Q (nI i))), (0, .ref (a 0)), (1, .int sp), (2, .int what), (4, .int (nI i))]) hx hb d_M_greatest_90 rfl hl (by decide) rfl (fun ls hl => ?_)
          refine lv_iinc (v := nI (i + 1)) (lv' := [(4, .int (nI (i + 1))), (3, .int (0 : Int32)), (6, .int (0 : Int32)), (5, .int (m_spaceOf N K B Q (nI i))), (0, .ref (a 0)), (1, .int sp), (2, .int what)]) hx hb d_M_greatest_91 hl (k := 6) rfl (nI_1 i) (by decide) rfl (fun ls hl => ?_)
          refine lv_goto (tgt := 5) hx hb d_M_greatest_94 (by decide) ?_
          have e_b : m_greatest_5 N K B Q sp what (k + 1) i v3 = m_greatest_5 N K B Q sp what k (i + 1) (0 : Int32) := by rw [m_greatest_5_S, if_neg c_25, if_neg c_43, if_neg c_81]
          rw [e_b]
          exact ih (i + 1) (by omega) (0 : Int32) ls (lv_sub hl [4, 5, 6, 1, 0] rfl)
def m_greatest (N : Nat) (K : Nat) (B : Nat → Nat → Int32) (Q : Nat → Nat → Int32) (sp what : Int32) : Int32 := m_greatest_5 N K B Q sp what N 0 (0 : Int32)
set_option maxHeartbeats 4000000 in
set_option maxRecDepth 100000 in
theorem cm_greatest (l : Launch) (D : va_G) (a : Nat → Nat) (cI cZ : ClassId) (N K : Nat) (B Q : Nat → Nat → Int32) (hN : N ≤ 30) (hKK : K ≤ 10) (hC : chs N B) (hDr : drM N K B) (sp what : Int32) (hs : ∃ j : Nat, j < N ∧ sp = nI j) (hwt : ∃ k : Nat, k < 2 ∧ what = nI k) : Met l y_M_greatest (Cond.code y_M_greatest b_M_greatest 7 (some .int) :: BW) ({ frames := 5, cells := 0, slots := 0, locals := 108 } : Room) (PcR D (wM a cI cZ (nI N) (nI K) B Q) (tM cI cZ) [.ref (a 0), .int sp, .int what]) (vp_Si (fun r => r = m_greatest N K B Q sp what)) 0 0 (fun _ => False) := by
  refine roStart (by decide) rfl (Nat.le_of_ble_eq_true rfl) (fun p e s m below meth c Sx hr hlk hP hK ls hl => ?_)
  obtain ⟨hx, hb, hml, hown, hts⟩ := id Sx
  have hl : lv_has ls 7 [(0, .ref (a 0)), (1, .int sp), (2, .int what)] := hl
  refine lv_iconst (v := (0 : Int32)) hx hb d_M_greatest_0 (by decide) ?_
  refine lv_istore_n (lv' := [(3, .int (0 : Int32)), (0, .ref (a 0)), (1, .int sp), (2, .int what)]) hx hb d_M_greatest_1 rfl hl (by decide) rfl (fun ls hl => ?_)
  refine lv_iconst (v := (0 : Int32)) hx hb d_M_greatest_2 (by decide) ?_
  refine lv_istore (lv' := [(4, .int (0 : Int32)), (3, .int (0 : Int32)), (0, .ref (a 0)), (1, .int sp), (2, .int what)]) hx hb d_M_greatest_3 hl (by decide) rfl (fun ls hl => ?_)
  have e_5 : m_greatest N K B Q sp what = m_greatest_5 N K B Q sp what N 0 (0 : Int32) := by rw [m_greatest]
  rw [e_5]
  exact wm_greatest_5 l D a cI cZ N K B Q hN hKK hC hDr sp what hs hwt Sx hr hlk hP hK N 0 (by omega) (0 : Int32) ls (lv_sub hl [2, 3, 4, 1, 0] rfl)

def m_count (N : Nat) (K : Nat) (B : Nat → Nat → Int32) (Q : Nat → Nat → Int32) (what : Int32) : Int32 := (if what = (0 : Int32) then nI N else (if what = (1 : Int32) then nI K else (-3 : Int32)))
set_option maxHeartbeats 4000000 in
set_option maxRecDepth 100000 in
theorem cm_count (l : Launch) (D : va_G) (a : Nat → Nat) (cI cZ : ClassId) (N K : Nat) (B Q : Nat → Nat → Int32) (hN : N ≤ 30) (hKK : K ≤ 10) (hC : chs N B) (hDr : drM N K B) (what : Int32) : Met l y_M_count (Cond.code y_M_count b_M_count 2 (some .int) :: BW) ({ frames := 0, cells := 0, slots := 0, locals := 0 } : Room) (PcR D (wM a cI cZ (nI N) (nI K) B Q) (tM cI cZ) [.ref (a 0), .int what]) (vp_Si (fun r => r = m_count N K B Q what)) 0 0 (fun _ => False) := by
  refine roStart (by decide) rfl (Nat.le_of_ble_eq_true rfl) (fun p e s m below meth c Sx hr hlk hP hK ls hl => ?_)
  obtain ⟨hx, hb, hml, hown, hts⟩ := id Sx
  have hl : lv_has ls 2 [(0, .ref (a 0)), (1, .int what)] := hl
  refine lv_iload_n hx hb d_M_count_0 rfl (lv_at hl 1 rfl) ?_
  refine lv_if_ne (tgt := 11) hx hb d_M_count_1 (by decide) (fun c_1 => ?_) (fun c_1 => ?_)
  · refine lv_iload_n hx hb d_M_count_11 rfl (lv_at hl 1 rfl) ?_
    refine lv_iconst (v := (1 : Int32)) hx hb d_M_count_12 (by decide) ?_
    refine lv_icmp_ne (tgt := 23) hx hb d_M_count_13 (by decide) (fun c_13 => ?_) (fun c_13 => ?_)
    · refine lv_bipush (v := (-3 : Int32)) hx hb d_M_count_23 (by decide) ?_
      exact roRet hx hb hr rfl hlk (show (-3 : Int32) = m_count N K B Q what from by rw [m_count, if_neg c_1, if_neg c_13]) d_M_count_25
    · refine lv_aload_n hx hb d_M_count_16 rfl (lv_at hl 0 rfl) ?_
      refine va_get (D := D) (ci := 1) (v := .int (nI K)) (C := R_M) (T := F_M) (N := 16) hx hb hts i_M hown hK hP 0 rfl rfl 4 (by decide) (hts _ fl_M_63) (fun _ h9 => h9) rfl d_M_count_17 ?_
      refine lv_goto (tgt := 25) hx hb d_M_count_20 (by decide) ?_
      exact roRet hx hb hr rfl hlk (show nI K = m_count N K B Q what from by rw [m_count, if_neg c_1, if_pos c_13]) d_M_count_25
  · refine lv_aload_n hx hb d_M_count_4 rfl (lv_at hl 0 rfl) ?_
    refine va_get (D := D) (ci := 1) (v := .int (nI N)) (C := R_M) (T := F_M) (N := 16) hx hb hts i_M hown hK hP 0 rfl rfl 0 (by decide) (hts _ fl_M_47) (fun _ h9 => h9) rfl d_M_count_5 ?_
    refine lv_goto (tgt := 25) hx hb d_M_count_8 (by decide) ?_
    exact roRet hx hb hr rfl hlk (show nI N = m_count N K B Q what from by rw [m_count, if_pos c_1]) d_M_count_25

def m_told_16 (N : Nat) (K : Nat) (B : Nat → Nat → Int32) (Q : Nat → Nat → Int32) (x : Int32) : Nat → Nat → Int32 → Int32
  | 0, i, v3 => v3
  | k + 1, i, v3 => (if (m_isWithin N K B Q (nI i) x) = (0 : Int32) then m_told_16 N K B Q x k (i + 1) (v3 + (0 : Int32)) else m_told_16 N K B Q x k (i + 1) (v3 + (1 : Int32)))
theorem m_told_16_0 (N : Nat) (K : Nat) (B : Nat → Nat → Int32) (Q : Nat → Nat → Int32) (x : Int32) (i : Nat) (v3 : Int32) : m_told_16 N K B Q x 0 i v3 = v3 := rfl
theorem m_told_16_S (N : Nat) (K : Nat) (B : Nat → Nat → Int32) (Q : Nat → Nat → Int32) (x : Int32) (k : Nat) (i : Nat) (v3 : Int32) : m_told_16 N K B Q x (k + 1) i v3 = (if (m_isWithin N K B Q (nI i) x) = (0 : Int32) then m_told_16 N K B Q x k (i + 1) (v3 + (0 : Int32)) else m_told_16 N K B Q x k (i + 1) (v3 + (1 : Int32))) := rfl
set_option maxHeartbeats 4000000 in
set_option maxRecDepth 100000 in
theorem wm_told_16 (l : Launch) (D : va_G) (a : Nat → Nat) (cI cZ : ClassId) (N K : Nat) (B Q : Nat → Nat → Int32) (hN : N ≤ 30) (hKK : K ≤ 10) (hC : chs N B) (hDr : drM N K B) (x : Int32) (what : Int32) {p : Program} {e : Env} {s : State} {m : MethodId} {below : List Frame} {meth : Method} {c : Code} {Q0 : State → Prop} (Sx : CallFix p m c b_M_told 5 s ([.ref (a 0), .int x, .int what] : List Value).toArray BW R_M) (hP : va_P D classes (wM a cI cZ (nI N) (nI K) B Q) s.heap) (hK : va_K D classes (tM cI cZ) s) : ∀ (k i : Nat), i + k = N → ∀ (v3 : Int32) (ls : Array Slot), lv_has ls 5 [(0, .ref (a 0)), (1, .int x), (2, .int what), (3, .int v3), (4, .int (nI i))] → (∀ ls : Array Slot, lv_has ls 5 [(0, .ref (a 0)), (1, .int x), (2, .int what), (3, .int (m_told_16 N K B Q x k i v3))] → W p l e ({ frames := 5, cells := 0, slots := 0, locals := 108 } : Room) s m ([.ref (a 0), .int x, .int what] : List Value).toArray below meth c s.heap [] 0 0 Q0 (F0 m 49 ls [])) → W p l e ({ frames := 5, cells := 0, slots := 0, locals := 108 } : Room) s m ([.ref (a 0), .int x, .int what] : List Value).toArray below meth c s.heap [] 0 0 Q0 (F0 m 16 ls []) := by
  obtain ⟨hx, hb, hml, hown, hts⟩ := id Sx
  intro k
  induction k with
  | zero =>
    intro i hi v3 ls hl hk
    refine lv_iload hx hb d_M_told_16 (lv_at hl 4 rfl) ?_
    refine lv_aload_n hx hb d_M_told_18 rfl (lv_at hl 0 rfl) ?_
    refine va_get (D := D) (ci := 1) (v := .int (nI N)) (C := R_M) (T := F_M) (N := 16) hx hb hts i_M hown hK hP 0 rfl rfl 0 (by decide) (hts _ fl_M_47) (fun _ h9 => h9) rfl d_M_told_19 ?_
    refine lv_icmp_ge (tgt := 49) hx hb d_M_told_22 (by decide) (fun c_22 => ?_) (fun c_22 => absurd (nI_le (a := N) (b := i) (by omega) (by omega)) c_22)
    have e_b : m_told_16 N K B Q x 0 i v3 = v3 := by rw [m_told_16_0]
    rw [e_b] at hk
    exact hk ls (lv_sub hl [0, 1, 2, 3] rfl)
  | succ k ih =>
    intro i hi v3 ls hl hk
    refine lv_iload hx hb d_M_told_16 (lv_at hl 4 rfl) ?_
    refine lv_aload_n hx hb d_M_told_18 rfl (lv_at hl 0 rfl) ?_
    refine va_get (D := D) (ci := 1) (v := .int (nI N)) (C := R_M) (T := F_M) (N := 16) hx hb hts i_M hown hK hP 0 rfl rfl 0 (by decide) (hts _ fl_M_47) (fun _ h9 => h9) rfl d_M_told_19 ?_
    refine lv_icmp_ge (tgt := 49) hx hb d_M_told_22 (by decide) (fun c_22 => absurd c_22 (nI_ge (a := i) (b := N) (by omega) (by omega))) (fun c_22 => ?_)
    refine lv_iload_n hx hb d_M_told_25 rfl (lv_at hl 3 rfl) ?_
    refine lv_aload_n hx hb d_M_told_26 rfl (lv_at hl 0 rfl) ?_
    refine lv_iload hx hb d_M_told_27 (lv_at hl 4 rfl) ?_
    refine lv_iload_n hx hb d_M_told_29 rfl (lv_at hl 1 rfl) ?_
    refine xro (As := [.int (nI i), .int x]) (rest := [.int v3]) Sx (cm_isWithin l D a cI cZ N K B Q hN hKK hC hDr (nI i) x (⟨i, by omega, rfl⟩)) v_M_isWithin ⟨rfl, rfl, Nat.le_of_ble_eq_true rfl, Nat.le_of_ble_eq_true rfl⟩ hK hP (ci := 1) (q0 := 0) rfl rfl rfl hl.1 rfl (Nat.le_of_ble_eq_true rfl) d_M_told_30 ⟨Nat.le_of_ble_eq_true rfl, Nat.le_of_ble_eq_true rfl⟩ (fun r hq => ?_)
    subst hq
    refine lv_if_eq (tgt := 40) hx hb d_M_told_33 (by decide) (fun c_33 => ?_) (fun c_33 => ?_)
    · refine lv_iconst (v := (0 : Int32)) hx hb d_M_told_40 (by decide) ?_
      refine lv_iadd hx hb d_M_told_41 ?_
      refine lv_istore_n (lv' := [(3, .int (v3 + (0 : Int32))), (0, .ref (a 0)), (1, .int x), (2, .int what), (4, .int (nI i))]) hx hb d_M_told_42 rfl hl (by decide) rfl (fun ls hl => ?_)
      refine lv_iinc (v := nI (i + 1)) (lv' := [(4, .int (nI (i + 1))), (3, .int (v3 + (0 : Int32))), (0, .ref (a 0)), (1, .int x), (2, .int what)]) hx hb d_M_told_43 hl (k := 4) rfl (nI_1 i) (by decide) rfl (fun ls hl => ?_)
      refine lv_goto (tgt := 16) hx hb d_M_told_46 (by decide) ?_
      have e_b : m_told_16 N K B Q x (k + 1) i v3 = m_told_16 N K B Q x k (i + 1) (v3 + (0 : Int32)) := by rw [m_told_16_S, if_pos c_33]
      rw [e_b] at hk
      exact ih (i + 1) (by omega) (v3 + (0 : Int32)) ls (lv_sub hl [2, 3, 4, 1, 0] rfl) hk
    · refine lv_iconst (v := (1 : Int32)) hx hb d_M_told_36 (by decide) ?_
      refine lv_goto (tgt := 41) hx hb d_M_told_37 (by decide) ?_
      refine lv_iadd hx hb d_M_told_41 ?_
      refine lv_istore_n (lv' := [(3, .int (v3 + (1 : Int32))), (0, .ref (a 0)), (1, .int x), (2, .int what), (4, .int (nI i))]) hx hb d_M_told_42 rfl hl (by decide) rfl (fun ls hl => ?_)
      refine lv_iinc (v := nI (i + 1)) (lv' := [(4, .int (nI (i + 1))), (3, .int (v3 + (1 : Int32))), (0, .ref (a 0)), (1, .int x), (2, .int what)]) hx hb d_M_told_43 hl (k := 4) rfl (nI_1 i) (by decide) rfl (fun ls hl => ?_)
      refine lv_goto (tgt := 16) hx hb d_M_told_46 (by decide) ?_
      have e_b : m_told_16 N K B Q x (k + 1) i v3 = m_told_16 N K B Q x k (i + 1) (v3 + (1 : Int32)) := by rw [m_told_16_S, if_neg c_33]
      rw [e_b] at hk
      exact ih (i + 1) (by omega) (v3 + (1 : Int32)) ls (lv_sub hl [2, 3, 4, 1, 0] rfl) hk
def m_told (N : Nat) (K : Nat) (B : Nat → Nat → Int32) (Q : Nat → Nat → Int32) (x what : Int32) : Int32 := (if (m_isThing N K B Q x) = (0 : Int32) then (-2 : Int32) else (if what = (0 : Int32) then B 0 x.toNatClampNeg else (if what = (1 : Int32) then B 1 x.toNatClampNeg else (if what = (2 : Int32) then m_spaceOf N K B Q x else (if what = (3 : Int32) then m_heldBy N K B Q x else (if what = (4 : Int32) then m_told_16 N K B Q x N 0 (0 : Int32) else (if (m_in what (5 : Int32) (8 : Int32)) = (0 : Int32) then (-3 : Int32) else B 2 ((((4 : Int32) * x) + what) - (5 : Int32)).toNatClampNeg)))))))
set_option maxHeartbeats 4000000 in
set_option maxRecDepth 100000 in
theorem cm_told (l : Launch) (D : va_G) (a : Nat → Nat) (cI cZ : ClassId) (N K : Nat) (B Q : Nat → Nat → Int32) (hN : N ≤ 30) (hKK : K ≤ 10) (hC : chs N B) (hDr : drM N K B) (x what : Int32) : Met l y_M_told (Cond.code y_M_told b_M_told 5 (some .int) :: BW) ({ frames := 5, cells := 0, slots := 0, locals := 108 } : Room) (PcR D (wM a cI cZ (nI N) (nI K) B Q) (tM cI cZ) [.ref (a 0), .int x, .int what]) (vp_Si (fun r => r = m_told N K B Q x what)) 0 0 (fun _ => False) := by
  refine roStart (by decide) rfl (Nat.le_of_ble_eq_true rfl) (fun p e s m below meth c Sx hr hlk hP hK ls hl => ?_)
  obtain ⟨hx, hb, hml, hown, hts⟩ := id Sx
  have hl : lv_has ls 5 [(0, .ref (a 0)), (1, .int x), (2, .int what)] := hl
  refine lv_aload_n hx hb d_M_told_0 rfl (lv_at hl 0 rfl) ?_
  refine lv_iload_n hx hb d_M_told_1 rfl (lv_at hl 1 rfl) ?_
  refine xro (As := [.int x]) (rest := []) Sx (cm_isThing l D a cI cZ N K B Q hN hKK hC hDr x) v_M_isThing ⟨rfl, rfl, Nat.le_of_ble_eq_true rfl, Nat.le_of_ble_eq_true rfl⟩ hK hP (ci := 1) (q0 := 0) rfl rfl rfl hl.1 rfl (Nat.le_of_ble_eq_true rfl) d_M_told_2 ⟨Nat.le_of_ble_eq_true rfl, Nat.le_of_ble_eq_true rfl⟩ (fun r hq => ?_)
  subst hq
  refine lv_if_ne (tgt := 11) hx hb d_M_told_5 (by decide) (fun c_5 => ?_) (fun c_5 => ?_)
  · refine lv_iconst (v := (0 : Int32)) hx hb d_M_told_11 (by decide) ?_
    refine lv_istore_n (lv' := [(3, .int (0 : Int32)), (0, .ref (a 0)), (1, .int x), (2, .int what)]) hx hb d_M_told_12 rfl hl (by decide) rfl (fun ls hl => ?_)
    refine lv_iconst (v := (0 : Int32)) hx hb d_M_told_13 (by decide) ?_
    refine lv_istore (lv' := [(4, .int (0 : Int32)), (3, .int (0 : Int32)), (0, .ref (a 0)), (1, .int x), (2, .int what)]) hx hb d_M_told_14 hl (by decide) rfl (fun ls hl => ?_)
    refine wm_told_16 l D a cI cZ N K B Q hN hKK hC hDr x what Sx hP hK N 0 (by omega) (0 : Int32) ls (lv_sub hl [2, 3, 4, 1, 0] rfl) (fun ls hl => ?_)
    refine lv_iload_n hx hb d_M_told_49 rfl (lv_at hl 2 rfl) ?_
    by_cases c_50_0 : what = (0 : Int32)
    · refine lv_tableIn (off := (34 : Int)) (tgt := 84) hx hb d_M_told_50 (by rw [c_50_0]; decide) (by rw [c_50_0]; decide) (by rw [c_50_0]; rfl) (by decide) ?_
      refine lv_aload_n hx hb d_M_told_84 rfl (lv_at hl 0 rfl) ?_
      refine va_get (D := D) (ci := 1) (v := .ref (a 1)) (C := R_M) (T := F_M) (N := 16) hx hb hts i_M hown hK hP 0 rfl rfl 1 (by decide) (hts _ fl_M_7) (fun _ h9 => h9) rfl d_M_told_85 ?_
      refine lv_iload_n hx hb d_M_told_88 rfl (lv_at hl 1 rfl) ?_
      refine va_iald (n := 30) hx hb hK hP 1 0 rfl rfl (th_in hN (isThingM_j hN c_5)) d_M_told_89 ?_
      exact roRet hx hb hr rfl hlk (show B 0 x.toNatClampNeg = m_told N K B Q x what from by rw [m_told, if_neg c_5, if_pos c_50_0]) d_M_told_90
    · skip
      by_cases c_50_1 : what = (1 : Int32)
      · refine lv_tableIn (off := (41 : Int)) (tgt := 91) hx hb d_M_told_50 (by rw [c_50_1]; decide) (by rw [c_50_1]; decide) (by rw [c_50_1]; rfl) (by decide) ?_
        refine lv_aload_n hx hb d_M_told_91 rfl (lv_at hl 0 rfl) ?_
        refine va_get (D := D) (ci := 1) (v := .ref (a 2)) (C := R_M) (T := F_M) (N := 16) hx hb hts i_M hown hK hP 0 rfl rfl 2 (by decide) (hts _ fl_M_13) (fun _ h9 => h9) rfl d_M_told_92 ?_
        refine lv_iload_n hx hb d_M_told_95 rfl (lv_at hl 1 rfl) ?_
        refine va_iald (n := 30) hx hb hK hP 2 0 rfl rfl (th_in hN (isThingM_j hN c_5)) d_M_told_96 ?_
        exact roRet hx hb hr rfl hlk (show B 1 x.toNatClampNeg = m_told N K B Q x what from by rw [m_told, if_neg c_5, if_neg c_50_0, if_pos c_50_1]) d_M_told_97
      · skip
        by_cases c_50_2 : what = (2 : Int32)
        · refine lv_tableIn (off := (48 : Int)) (tgt := 98) hx hb d_M_told_50 (by rw [c_50_2]; decide) (by rw [c_50_2]; decide) (by rw [c_50_2]; rfl) (by decide) ?_
          refine lv_aload_n hx hb d_M_told_98 rfl (lv_at hl 0 rfl) ?_
          refine lv_iload_n hx hb d_M_told_99 rfl (lv_at hl 1 rfl) ?_
          refine xro (As := [.int x]) (rest := []) Sx (cm_spaceOf l D a cI cZ N K B Q hN hKK hC hDr x (isThingM_j hN c_5)) v_M_spaceOf ⟨rfl, rfl, Nat.le_of_ble_eq_true rfl, Nat.le_of_ble_eq_true rfl⟩ hK hP (ci := 1) (q0 := 0) rfl rfl rfl hl.1 rfl (Nat.le_of_ble_eq_true rfl) d_M_told_100 ⟨Nat.le_of_ble_eq_true rfl, Nat.le_of_ble_eq_true rfl⟩ (fun r hq => ?_)
          subst hq
          exact roRet hx hb hr rfl hlk (show m_spaceOf N K B Q x = m_told N K B Q x what from by rw [m_told, if_neg c_5, if_neg c_50_0, if_neg c_50_1, if_pos c_50_2]) d_M_told_103
        · skip
          by_cases c_50_3 : what = (3 : Int32)
          · refine lv_tableIn (off := (54 : Int)) (tgt := 104) hx hb d_M_told_50 (by rw [c_50_3]; decide) (by rw [c_50_3]; decide) (by rw [c_50_3]; rfl) (by decide) ?_
            refine lv_aload_n hx hb d_M_told_104 rfl (lv_at hl 0 rfl) ?_
            refine lv_iload_n hx hb d_M_told_105 rfl (lv_at hl 1 rfl) ?_
            refine xro (As := [.int x]) (rest := []) Sx (cm_heldBy l D a cI cZ N K B Q hN hKK hC hDr x) v_M_heldBy ⟨rfl, rfl, Nat.le_of_ble_eq_true rfl, Nat.le_of_ble_eq_true rfl⟩ hK hP (ci := 1) (q0 := 0) rfl rfl rfl hl.1 rfl (Nat.le_of_ble_eq_true rfl) d_M_told_106 ⟨Nat.le_of_ble_eq_true rfl, Nat.le_of_ble_eq_true rfl⟩ (fun r hq => ?_)
            subst hq
            exact roRet hx hb hr rfl hlk (show m_heldBy N K B Q x = m_told N K B Q x what from by rw [m_told, if_neg c_5, if_neg c_50_0, if_neg c_50_1, if_neg c_50_2, if_pos c_50_3]) d_M_told_109
          · skip
            by_cases c_50_4 : what = (4 : Int32)
            · refine lv_tableIn (off := (60 : Int)) (tgt := 110) hx hb d_M_told_50 (by rw [c_50_4]; decide) (by rw [c_50_4]; decide) (by rw [c_50_4]; rfl) (by decide) ?_
              refine lv_iload_n hx hb d_M_told_110 rfl (lv_at hl 3 rfl) ?_
              exact roRet hx hb hr rfl hlk (show m_told_16 N K B Q x N 0 (0 : Int32) = m_told N K B Q x what from by rw [m_told, if_neg c_5, if_neg c_50_0, if_neg c_50_1, if_neg c_50_2, if_neg c_50_3, if_pos c_50_4]) d_M_told_111
            · skip
              refine lv_tableOut (tgt := 112) hx hb d_M_told_50 (by have h0 := lv_neT (a := 0) c_50_0 (by decide); have h1 := lv_neT (a := 1) c_50_1 (by decide); have h2 := lv_neT (a := 2) c_50_2 (by decide); have h3 := lv_neT (a := 3) c_50_3 (by decide); have h4 := lv_neT (a := 4) c_50_4 (by decide); omega) (by decide) ?_
              refine lv_iload_n hx hb d_M_told_112 rfl (lv_at hl 2 rfl) ?_
              refine lv_iconst (v := (5 : Int32)) hx hb d_M_told_113 (by decide) ?_
              refine lv_bipush (v := (8 : Int32)) hx hb d_M_told_114 (by decide) ?_
              refine xst (As := [.int what, .int (5 : Int32), .int (8 : Int32)]) (rest := []) Sx (cm_in l what (5 : Int32) (8 : Int32)) v_M_in ⟨rfl, rfl, Nat.le_of_ble_eq_true rfl, Nat.le_of_ble_eq_true rfl⟩ rfl hl.1 rfl (Nat.le_of_ble_eq_true rfl) d_M_told_116 ⟨Nat.le_of_ble_eq_true rfl, Nat.le_of_ble_eq_true rfl⟩ (fun r hq => ?_)
              subst hq
              refine lv_if_eq (tgt := 137) hx hb d_M_told_119 (by decide) (fun c_119 => ?_) (fun c_119 => ?_)
              · refine lv_bipush (v := (-3 : Int32)) hx hb d_M_told_137 (by decide) ?_
                exact roRet hx hb hr rfl hlk (show (-3 : Int32) = m_told N K B Q x what from by rw [m_told, if_neg c_5, if_neg c_50_0, if_neg c_50_1, if_neg c_50_2, if_neg c_50_3, if_neg c_50_4, if_pos c_119]) d_M_told_139
              · refine lv_aload_n hx hb d_M_told_122 rfl (lv_at hl 0 rfl) ?_
                refine va_get (D := D) (ci := 1) (v := .ref (a 3)) (C := R_M) (T := F_M) (N := 16) hx hb hts i_M hown hK hP 0 rfl rfl 3 (by decide) (hts _ fl_M_16) (fun _ h9 => h9) rfl d_M_told_123 ?_
                refine lv_iconst (v := (4 : Int32)) hx hb d_M_told_126 (by decide) ?_
                refine lv_iload_n hx hb d_M_told_127 rfl (lv_at hl 1 rfl) ?_
                refine lv_imul hx hb d_M_told_128 ?_
                refine lv_iload_n hx hb d_M_told_129 rfl (lv_at hl 2 rfl) ?_
                refine lv_iadd hx hb d_M_told_130 ?_
                refine lv_iconst (v := (5 : Int32)) hx hb d_M_told_131 (by decide) ?_
                refine lv_isub hx hb d_M_told_132 ?_
                refine va_iald (n := 120) hx hb hK hP 3 0 rfl rfl (st5_in hN (isThingM_j hN c_5) (in58 c_119)) d_M_told_133 ?_
                refine lv_goto (tgt := 139) hx hb d_M_told_134 (by decide) ?_
                exact roRet hx hb hr rfl hlk (show B 2 ((((4 : Int32) * x) + what) - (5 : Int32)).toNatClampNeg = m_told N K B Q x what from by rw [m_told, if_neg c_5, if_neg c_50_0, if_neg c_50_1, if_neg c_50_2, if_neg c_50_3, if_neg c_50_4, if_neg c_119]) d_M_told_139
  · refine lv_bipush (v := (-2 : Int32)) hx hb d_M_told_8 (by decide) ?_
    exact roRet hx hb hr rfl hlk (show (-2 : Int32) = m_told N K B Q x what from by rw [m_told, if_pos c_5]) d_M_told_10

def m_held_16 (N : Nat) (K : Nat) (B : Nat → Nat → Int32) (Q : Nat → Nat → Int32) (x : Int32) (ix : Int32) : Nat → Nat → Int32 → Int32
  | 0, i, v3 => (-1 : Int32)
  | k + 1, i, v3 => (if ix < (0 : Int32) then (-1 : Int32) else (if (B 1 i) = x then (if v3 = (0 : Int32) then nI i else m_held_16 N K B Q x ix k (i + 1) (v3 + (-1 : Int32))) else m_held_16 N K B Q x ix k (i + 1) v3))
theorem m_held_16_0 (N : Nat) (K : Nat) (B : Nat → Nat → Int32) (Q : Nat → Nat → Int32) (x : Int32) (ix : Int32) (i : Nat) (v3 : Int32) : m_held_16 N K B Q x ix 0 i v3 = (-1 : Int32) := rfl
theorem m_held_16_S (N : Nat) (K : Nat) (B : Nat → Nat → Int32) (Q : Nat → Nat → Int32) (x : Int32) (ix : Int32) (k : Nat) (i : Nat) (v3 : Int32) : m_held_16 N K B Q x ix (k + 1) i v3 = (if ix < (0 : Int32) then (-1 : Int32) else (if (B 1 i) = x then (if v3 = (0 : Int32) then nI i else m_held_16 N K B Q x ix k (i + 1) (v3 + (-1 : Int32))) else m_held_16 N K B Q x ix k (i + 1) v3)) := rfl
set_option maxHeartbeats 4000000 in
set_option maxRecDepth 100000 in
theorem wm_held_16 (l : Launch) (D : va_G) (a : Nat → Nat) (cI cZ : ClassId) (N K : Nat) (B Q : Nat → Nat → Int32) (hN : N ≤ 30) (hKK : K ≤ 10) (hC : chs N B) (hDr : drM N K B) (x : Int32) (ix : Int32) {p : Program} {e : Env} {s : State} {m : MethodId} {below : List Frame} {meth : Method} {c : Code} (Sx : CallFix p m c b_M_held 5 s ([.ref (a 0), .int x, .int ix] : List Value).toArray BW R_M) (hr : meth.sig.returnType = (some .int)) (hlk : meth.locks = false) (hP : va_P D classes (wM a cI cZ (nI N) (nI K) B Q) s.heap) (hK : va_K D classes (tM cI cZ) s) : ∀ (k i : Nat), i + k = N → ∀ (v3 : Int32) (ls : Array Slot), lv_has ls 5 [(0, .ref (a 0)), (1, .int x), (2, .int ix), (3, .int v3), (4, .int (nI i))] → W p l e ({ frames := 2, cells := 0, slots := 0, locals := 43 } : Room) s m ([.ref (a 0), .int x, .int ix] : List Value).toArray below meth c s.heap [] 0 0 (MQ below (vp_Si (fun r => r = m_held_16 N K B Q x ix k i v3)) ([.ref (a 0), .int x, .int ix] : List Value).toArray s 0 0 (fun _ => False)) (F0 m 16 ls []) := by
  obtain ⟨hx, hb, hml, hown, hts⟩ := id Sx
  intro k
  induction k with
  | zero =>
    intro i hi v3 ls hl
    refine lv_iload hx hb d_M_held_16 (lv_at hl 4 rfl) ?_
    refine lv_aload_n hx hb d_M_held_18 rfl (lv_at hl 0 rfl) ?_
    refine va_get (D := D) (ci := 1) (v := .int (nI N)) (C := R_M) (T := F_M) (N := 16) hx hb hts i_M hown hK hP 0 rfl rfl 0 (by decide) (hts _ fl_M_47) (fun _ h9 => h9) rfl d_M_held_19 ?_
    refine lv_icmp_ge (tgt := 56) hx hb d_M_held_22 (by decide) (fun c_22 => ?_) (fun c_22 => absurd (nI_le (a := N) (b := i) (by omega) (by omega)) c_22)
    refine lv_iconst (v := (-1 : Int32)) hx hb d_M_held_56 (by decide) ?_
    exact roRet hx hb hr rfl hlk (show (-1 : Int32) = m_held_16 N K B Q x ix 0 i v3 from by rw [m_held_16_0]) d_M_held_57
  | succ k ih =>
    intro i hi v3 ls hl
    refine lv_iload hx hb d_M_held_16 (lv_at hl 4 rfl) ?_
    refine lv_aload_n hx hb d_M_held_18 rfl (lv_at hl 0 rfl) ?_
    refine va_get (D := D) (ci := 1) (v := .int (nI N)) (C := R_M) (T := F_M) (N := 16) hx hb hts i_M hown hK hP 0 rfl rfl 0 (by decide) (hts _ fl_M_47) (fun _ h9 => h9) rfl d_M_held_19 ?_
    refine lv_icmp_ge (tgt := 56) hx hb d_M_held_22 (by decide) (fun c_22 => absurd c_22 (nI_ge (a := i) (b := N) (by omega) (by omega))) (fun c_22 => ?_)
    refine lv_iload_n hx hb d_M_held_25 rfl (lv_at hl 2 rfl) ?_
    refine lv_if_lt (tgt := 56) hx hb d_M_held_26 (by decide) (fun c_26 => ?_) (fun c_26 => ?_)
    · refine lv_iconst (v := (-1 : Int32)) hx hb d_M_held_56 (by decide) ?_
      exact roRet hx hb hr rfl hlk (show (-1 : Int32) = m_held_16 N K B Q x ix (k + 1) i v3 from by rw [m_held_16_S, if_pos c_26]) d_M_held_57
    · refine lv_aload_n hx hb d_M_held_29 rfl (lv_at hl 0 rfl) ?_
      refine va_get (D := D) (ci := 1) (v := .ref (a 2)) (C := R_M) (T := F_M) (N := 16) hx hb hts i_M hown hK hP 0 rfl rfl 2 (by decide) (hts _ fl_M_13) (fun _ h9 => h9) rfl d_M_held_30 ?_
      refine lv_iload hx hb d_M_held_33 (lv_at hl 4 rfl) ?_
      refine x_ialdN (n := 30) hx hb hK hP 2 0 rfl rfl (by omega) (by omega) d_M_held_35 ?_
      refine lv_iload_n hx hb d_M_held_36 rfl (lv_at hl 1 rfl) ?_
      refine lv_icmp_ne (tgt := 50) hx hb d_M_held_37 (by decide) (fun c_37 => ?_) (fun c_37 => ?_)
      · refine lv_iinc (v := nI (i + 1)) (lv' := [(4, .int (nI (i + 1))), (0, .ref (a 0)), (1, .int x), (2, .int ix), (3, .int v3)]) hx hb d_M_held_50 hl (k := 4) rfl (nI_1 i) (by decide) rfl (fun ls hl => ?_)
        refine lv_goto (tgt := 16) hx hb d_M_held_53 (by decide) ?_
        have e_b : m_held_16 N K B Q x ix (k + 1) i v3 = m_held_16 N K B Q x ix k (i + 1) v3 := by rw [m_held_16_S, if_neg c_26, if_neg c_37]
        rw [e_b]
        exact ih (i + 1) (by omega) v3 ls (lv_sub hl [1, 2, 3, 4, 0] rfl)
      · refine lv_iload_n hx hb d_M_held_40 rfl (lv_at hl 3 rfl) ?_
        refine lv_if_ne (tgt := 47) hx hb d_M_held_41 (by decide) (fun c_41 => ?_) (fun c_41 => ?_)
        · refine lv_iinc (v := v3 + (-1 : Int32)) (lv' := [(3, .int (v3 + (-1 : Int32))), (0, .ref (a 0)), (1, .int x), (2, .int ix), (4, .int (nI i))]) hx hb d_M_held_47 hl (k := 3) rfl (by rfl) (by decide) rfl (fun ls hl => ?_)
          refine lv_iinc (v := nI (i + 1)) (lv' := [(4, .int (nI (i + 1))), (3, .int (v3 + (-1 : Int32))), (0, .ref (a 0)), (1, .int x), (2, .int ix)]) hx hb d_M_held_50 hl (k := 4) rfl (nI_1 i) (by decide) rfl (fun ls hl => ?_)
          refine lv_goto (tgt := 16) hx hb d_M_held_53 (by decide) ?_
          have e_b : m_held_16 N K B Q x ix (k + 1) i v3 = m_held_16 N K B Q x ix k (i + 1) (v3 + (-1 : Int32)) := by rw [m_held_16_S, if_neg c_26, if_pos c_37, if_neg c_41]
          rw [e_b]
          exact ih (i + 1) (by omega) (v3 + (-1 : Int32)) ls (lv_sub hl [2, 3, 4, 1, 0] rfl)
        · refine lv_iload hx hb d_M_held_44 (lv_at hl 4 rfl) ?_
          exact roRet hx hb hr rfl hlk (show nI i = m_held_16 N K B Q x ix (k + 1) i v3 from by rw [m_held_16_S, if_neg c_26, if_pos c_37, if_pos c_41]) d_M_held_46
def m_held (N : Nat) (K : Nat) (B : Nat → Nat → Int32) (Q : Nat → Nat → Int32) (x ix : Int32) : Int32 := (if (m_isThing N K B Q x) = (0 : Int32) then (-2 : Int32) else m_held_16 N K B Q x ix N 0 ix)
set_option maxHeartbeats 4000000 in
set_option maxRecDepth 100000 in
theorem cm_held (l : Launch) (D : va_G) (a : Nat → Nat) (cI cZ : ClassId) (N K : Nat) (B Q : Nat → Nat → Int32) (hN : N ≤ 30) (hKK : K ≤ 10) (hC : chs N B) (hDr : drM N K B) (x ix : Int32) : Met l y_M_held (Cond.code y_M_held b_M_held 5 (some .int) :: BW) ({ frames := 2, cells := 0, slots := 0, locals := 43 } : Room) (PcR D (wM a cI cZ (nI N) (nI K) B Q) (tM cI cZ) [.ref (a 0), .int x, .int ix]) (vp_Si (fun r => r = m_held N K B Q x ix)) 0 0 (fun _ => False) := by
  refine roStart (by decide) rfl (Nat.le_of_ble_eq_true rfl) (fun p e s m below meth c Sx hr hlk hP hK ls hl => ?_)
  obtain ⟨hx, hb, hml, hown, hts⟩ := id Sx
  have hl : lv_has ls 5 [(0, .ref (a 0)), (1, .int x), (2, .int ix)] := hl
  refine lv_aload_n hx hb d_M_held_0 rfl (lv_at hl 0 rfl) ?_
  refine lv_iload_n hx hb d_M_held_1 rfl (lv_at hl 1 rfl) ?_
  refine xro (As := [.int x]) (rest := []) Sx (cm_isThing l D a cI cZ N K B Q hN hKK hC hDr x) v_M_isThing ⟨rfl, rfl, Nat.le_of_ble_eq_true rfl, Nat.le_of_ble_eq_true rfl⟩ hK hP (ci := 1) (q0 := 0) rfl rfl rfl hl.1 rfl (Nat.le_of_ble_eq_true rfl) d_M_held_2 ⟨Nat.le_of_ble_eq_true rfl, Nat.le_of_ble_eq_true rfl⟩ (fun r hq => ?_)
  subst hq
  refine lv_if_ne (tgt := 11) hx hb d_M_held_5 (by decide) (fun c_5 => ?_) (fun c_5 => ?_)
  · refine lv_iload_n hx hb d_M_held_11 rfl (lv_at hl 2 rfl) ?_
    refine lv_istore_n (lv' := [(3, .int ix), (0, .ref (a 0)), (1, .int x), (2, .int ix)]) hx hb d_M_held_12 rfl hl (by decide) rfl (fun ls hl => ?_)
    refine lv_iconst (v := (0 : Int32)) hx hb d_M_held_13 (by decide) ?_
    refine lv_istore (lv' := [(4, .int (0 : Int32)), (3, .int ix), (0, .ref (a 0)), (1, .int x), (2, .int ix)]) hx hb d_M_held_14 hl (by decide) rfl (fun ls hl => ?_)
    have e_16 : m_held N K B Q x ix = m_held_16 N K B Q x ix N 0 ix := by rw [m_held, if_neg c_5]
    rw [e_16]
    exact wm_held_16 l D a cI cZ N K B Q hN hKK hC hDr x ix Sx hr hlk hP hK N 0 (by omega) ix ls (lv_sub hl [2, 3, 4, 1, 0] rfl)
  · refine lv_bipush (v := (-2 : Int32)) hx hb d_M_held_8 (by decide) ?_
    exact roRet hx hb hr rfl hlk (show (-2 : Int32) = m_held N K B Q x ix from by rw [m_held, if_pos c_5]) d_M_held_10
