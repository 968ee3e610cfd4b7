def k_isThing (N K : Nat) (A : Nat → Nat → Int32) (x : Int32) : Int32 := (if x < (0 : Int32) then (0 : Int32) else (if (nI N) ≤ x then (0 : Int32) else (1 : Int32)))
set_option maxHeartbeats 4000000 in
set_option maxRecDepth 100000 in
theorem ck_isThing (l : Launch) (D : va_G) (a : Nat → Nat) (cI cII : ClassId) (N K : Nat) (A : Nat → Nat → Int32) (hN : N ≤ 30) (hKK : K ≤ 10) (x : Int32) : Met l y_C_isThing (Cond.code y_C_isThing b_C_isThing 2 (some .boolean) :: BW) ({ frames := 0, cells := 0, slots := 0, locals := 0 } : Room) (PcR D (wC a cI cII (nI N) (nI K) A) (tC cI cII) [.ref (a 0), .int x]) (vp_Si (fun r => r = k_isThing N K A x)) 0 0 (fun _ => False) := by
  refine roStart (by decide) rfl (Nat.le_of_ble_eq_true rfl) (fun p e s m below meth c Sx hr hlk hP hK ls hl => ?_)
  obtain ⟨hx, hb, hml, hown, hts⟩ := id Sx
  have hl : lv_has ls 2 [(0, .ref (a 0)), (1, .int x)] := hl
  refine lv_iload_n hx hb d_C_isThing_0 rfl (lv_at hl 1 rfl) ?_
  refine lv_if_lt (tgt := 16) hx hb d_C_isThing_1 (by decide) (fun c_1 => ?_) (fun c_1 => ?_)
  · refine lv_iconst (v := (0 : Int32)) hx hb d_C_isThing_16 (by decide) ?_
    exact roRet hx hb hr (by first | rfl | decide) hlk (show (0 : Int32) = k_isThing N K A x from by rw [k_isThing, if_pos c_1]) d_C_isThing_17
  · refine lv_iload_n hx hb d_C_isThing_4 rfl (lv_at hl 1 rfl) ?_
    refine lv_aload_n hx hb d_C_isThing_5 rfl (lv_at hl 0 rfl) ?_
    refine va_get (D := D) (ci := 0) (v := .int (nI N)) (C := R_C) (T := F_C) (N := 9) hx hb hts i_C hown hK hP 0 rfl rfl 0 (by decide) (hts _ fl_C_7) (fun _ h9 => h9) rfl d_C_isThing_6 ?_
    refine lv_icmp_ge (tgt := 16) hx hb d_C_isThing_9 (by decide) (fun c_9 => ?_) (fun c_9 => ?_)
    · refine lv_iconst (v := (0 : Int32)) hx hb d_C_isThing_16 (by decide) ?_
      exact roRet hx hb hr (by first | rfl | decide) hlk (show (0 : Int32) = k_isThing N K A x from by rw [k_isThing, if_neg c_1, if_pos c_9]) d_C_isThing_17
    · refine lv_iconst (v := (1 : Int32)) hx hb d_C_isThing_12 (by decide) ?_
      refine lv_goto (tgt := 17) hx hb d_C_isThing_13 (by decide) ?_
      exact roRet hx hb hr (by first | rfl | decide) hlk (show (1 : Int32) = k_isThing N K A x from by rw [k_isThing, if_neg c_1, if_neg c_9]) d_C_isThing_17

def k_isDoor (N K : Nat) (A : Nat → Nat → Int32) (x : Int32) : Int32 := (if x < (0 : Int32) then (0 : Int32) else (if (nI K) ≤ x then (0 : Int32) else (1 : Int32)))
set_option maxHeartbeats 4000000 in
set_option maxRecDepth 100000 in
theorem ck_isDoor (l : Launch) (D : va_G) (a : Nat → Nat) (cI cII : ClassId) (N K : Nat) (A : Nat → Nat → Int32) (hN : N ≤ 30) (hKK : K ≤ 10) (x : Int32) : Met l y_C_isDoor (Cond.code y_C_isDoor b_C_isDoor 2 (some .boolean) :: BW) ({ frames := 0, cells := 0, slots := 0, locals := 0 } : Room) (PcR D (wC a cI cII (nI N) (nI K) A) (tC cI cII) [.ref (a 0), .int x]) (vp_Si (fun r => r = k_isDoor N K A x)) 0 0 (fun _ => False) := by
  refine roStart (by decide) rfl (Nat.le_of_ble_eq_true rfl) (fun p e s m below meth c Sx hr hlk hP hK ls hl => ?_)
  obtain ⟨hx, hb, hml, hown, hts⟩ := id Sx
  have hl : lv_has ls 2 [(0, .ref (a 0)), (1, .int x)] := hl
  refine lv_iload_n hx hb d_C_isDoor_0 rfl (lv_at hl 1 rfl) ?_
  refine lv_if_lt (tgt := 16) hx hb d_C_isDoor_1 (by decide) (fun c_1 => ?_) (fun c_1 => ?_)
  · refine lv_iconst (v := (0 : Int32)) hx hb d_C_isDoor_16 (by decide) ?_
    exact roRet hx hb hr (by first | rfl | decide) hlk (show (0 : Int32) = k_isDoor N K A x from by rw [k_isDoor, if_pos c_1]) d_C_isDoor_17
  · refine lv_iload_n hx hb d_C_isDoor_4 rfl (lv_at hl 1 rfl) ?_
    refine lv_aload_n hx hb d_C_isDoor_5 rfl (lv_at hl 0 rfl) ?_
    refine va_get (D := D) (ci := 0) (v := .int (nI K)) (C := R_C) (T := F_C) (N := 9) hx hb hts i_C hown hK hP 0 rfl rfl 4 (by decide) (hts _ fl_C_25) (fun _ h9 => h9) rfl d_C_isDoor_6 ?_
    refine lv_icmp_ge (tgt := 16) hx hb d_C_isDoor_9 (by decide) (fun c_9 => ?_) (fun c_9 => ?_)
    · refine lv_iconst (v := (0 : Int32)) hx hb d_C_isDoor_16 (by decide) ?_
      exact roRet hx hb hr (by first | rfl | decide) hlk (show (0 : Int32) = k_isDoor N K A x from by rw [k_isDoor, if_neg c_1, if_pos c_9]) d_C_isDoor_17
    · refine lv_iconst (v := (1 : Int32)) hx hb d_C_isDoor_12 (by decide) ?_
      refine lv_goto (tgt := 17) hx hb d_C_isDoor_13 (by decide) ?_
      exact roRet hx hb hr (by first | rfl | decide) hlk (show (1 : Int32) = k_isDoor N K A x from by rw [k_isDoor, if_neg c_1, if_neg c_9]) d_C_isDoor_17
theorem isThing_j {N K : Nat} {A : Nat → Nat → Int32} {x : Int32} (hN : N ≤ 30) (h : ¬ k_isThing N K A x = (0 : Int32)) : ∃ j : Nat, j < N ∧ x = nI j := by
  rw [k_isThing] at h
  by_cases h1 : x < (0 : Int32)
  · rw [if_pos h1] at h; exact absurd rfl h
  · rw [if_neg h1] at h
    by_cases h2 : nI N ≤ x
    · rw [if_pos h2] at h; exact absurd rfl h
    · obtain ⟨j, hj, e, -⟩ := pk_mu h1 h2 (by omega)
      exact ⟨j, hj, e⟩
theorem in_isThing {N K : Nat} {A : Nat → Nat → Int32} {x : Int32} (hN : N ≤ 30) (h : ¬ k_isThing N K A x = (0 : Int32)) : vp_in x 30 := by
  obtain ⟨j, hj, rfl⟩ := isThing_j hN h
  exact vp_in_nI (by omega) (by omega)
theorem isDoor_j {N K : Nat} {A : Nat → Nat → Int32} {x : Int32} (hK : K ≤ 10) (h : ¬ k_isDoor N K A x = (0 : Int32)) : ∃ j : Nat, j < K ∧ x = nI j := by
  rw [k_isDoor] at h
  by_cases h1 : x < (0 : Int32)
  · rw [if_pos h1] at h; exact absurd rfl h
  · rw [if_neg h1] at h
    by_cases h2 : nI K ≤ x
    · rw [if_pos h2] at h; exact absurd rfl h
    · obtain ⟨j, hj, e, -⟩ := pk_mu h1 h2 (by omega)
      exact ⟨j, hj, e⟩
theorem in_isDoor {N K : Nat} {A : Nat → Nat → Int32} {x : Int32} (hK : K ≤ 10) (h : ¬ k_isDoor N K A x = (0 : Int32)) : vp_in x 10 := by
  obtain ⟨j, hj, rfl⟩ := isDoor_j hK h
  exact vp_in_nI (by omega) (by omega)
theorem in4 {x : Int32} (h1 : ¬ x < (0 : Int32)) (h2 : ¬ (4 : Int32) ≤ x) : vp_in x 4 := by
  obtain ⟨j, hj, e, -⟩ := pk_mu (L := 4) h1 h2 (by omega)
  rw [e]
  exact vp_in_nI hj (by omega)
theorem in2 {x : Int32} (h1 : ¬ x < (0 : Int32)) (h2 : ¬ (2 : Int32) ≤ x) : vp_in x 2 := by
  obtain ⟨j, hj, e, -⟩ := pk_mu (L := 2) h1 h2 (by omega)
  rw [e]
  exact vp_in_nI hj (by omega)

def k_sortOf (N K : Nat) (A : Nat → Nat → Int32) (x : Int32) : Int32 := (if (k_isThing N K A x) = (0 : Int32) then (-1 : Int32) else A 0 x.toNatClampNeg)
set_option maxHeartbeats 4000000 in
set_option maxRecDepth 100000 in
theorem ck_sortOf (l : Launch) (D : va_G) (a : Nat → Nat) (cI cII : ClassId) (N K : Nat) (A : Nat → Nat → Int32) (hN : N ≤ 30) (hKK : K ≤ 10) (x : Int32) : Met l y_C_sortOf (Cond.code y_C_sortOf b_C_sortOf 2 (some .int) :: BW) ({ frames := 1, cells := 0, slots := 0, locals := 21 } : Room) (PcR D (wC a cI cII (nI N) (nI K) A) (tC cI cII) [.ref (a 0), .int x]) (vp_Si (fun r => r = k_sortOf N K A x)) 0 0 (fun _ => False) := by
  refine roStart (by decide) rfl (Nat.le_of_ble_eq_true rfl) (fun p e s m below meth c Sx hr hlk hP hK ls hl => ?_)
  obtain ⟨hx, hb, hml, hown, hts⟩ := id Sx
  have hl : lv_has ls 2 [(0, .ref (a 0)), (1, .int x)] := hl
  refine lv_aload_n hx hb d_C_sortOf_0 rfl (lv_at hl 0 rfl) ?_
  refine lv_iload_n hx hb d_C_sortOf_1 rfl (lv_at hl 1 rfl) ?_
  refine xro (As := [.int x]) (rest := []) Sx (ck_isThing l D a cI cII N K A hN hKK x) v_C_isThing ⟨rfl, rfl, Nat.le_of_ble_eq_true rfl, Nat.le_of_ble_eq_true rfl⟩ hK hP (ci := 0) (q0 := 0) rfl rfl rfl hl.1 rfl (Nat.le_of_ble_eq_true rfl) d_C_sortOf_2 ⟨Nat.le_of_ble_eq_true rfl, Nat.le_of_ble_eq_true rfl⟩ (fun r hq => ?_)
  subst hq
  refine lv_if_eq (tgt := 17) hx hb d_C_sortOf_5 (by decide) (fun c_5 => ?_) (fun c_5 => ?_)
  · refine lv_iconst (v := (-1 : Int32)) hx hb d_C_sortOf_17 (by decide) ?_
    exact roRet hx hb hr rfl hlk (show (-1 : Int32) = k_sortOf N K A x from by rw [k_sortOf, if_pos c_5]) d_C_sortOf_18
  · refine lv_aload_n hx hb d_C_sortOf_8 rfl (lv_at hl 0 rfl) ?_
    refine va_get (D := D) (ci := 0) (v := .ref (a 1)) (C := R_C) (T := F_C) (N := 9) hx hb hts i_C hown hK hP 0 rfl rfl 1 (by decide) (hts _ fl_C_13) (fun _ h9 => h9) rfl d_C_sortOf_9 ?_
    refine lv_iload_n hx hb d_C_sortOf_12 rfl (lv_at hl 1 rfl) ?_
    refine va_iald (n := 30) hx hb hK hP 1 0 rfl rfl (in_isThing hN c_5) d_C_sortOf_13 ?_
    refine lv_goto (tgt := 18) hx hb d_C_sortOf_14 (by decide) ?_
    exact roRet hx hb hr rfl hlk (show A 0 x.toNatClampNeg = k_sortOf N K A x from by rw [k_sortOf, if_neg c_5]) d_C_sortOf_18
theorem sortOf_T {N K : Nat} {A : Nat → Nat → Int32} {x : Int32} (h : ¬ k_sortOf N K A x = (-1 : Int32)) : ¬ k_isThing N K A x = (0 : Int32) := fun e => h (by rw [k_sortOf, if_pos e])
theorem sortOf_k {N K : Nat} {A : Nat → Nat → Int32} {x : Int32} {v : Int32} (h : k_sortOf N K A x = v) (hv : ¬ v = (-1 : Int32)) : ¬ k_isThing N K A x = (0 : Int32) := sortOf_T (by rw [h]; exact hv)

def k_holderOf (N K : Nat) (A : Nat → Nat → Int32) (x : Int32) : Int32 := (if (k_isThing N K A x) = (0 : Int32) then (-1 : Int32) else A 1 x.toNatClampNeg)
set_option maxHeartbeats 4000000 in
set_option maxRecDepth 100000 in
theorem ck_holderOf (l : Launch) (D : va_G) (a : Nat → Nat) (cI cII : ClassId) (N K : Nat) (A : Nat → Nat → Int32) (hN : N ≤ 30) (hKK : K ≤ 10) (x : Int32) : Met l y_C_holderOf (Cond.code y_C_holderOf b_C_holderOf 2 (some .int) :: BW) ({ frames := 1, cells := 0, slots := 0, locals := 21 } : Room) (PcR D (wC a cI cII (nI N) (nI K) A) (tC cI cII) [.ref (a 0), .int x]) (vp_Si (fun r => r = k_holderOf N K A x)) 0 0 (fun _ => False) := by
  refine roStart (by decide) rfl (Nat.le_of_ble_eq_true rfl) (fun p e s m below meth c Sx hr hlk hP hK ls hl => ?_)
  obtain ⟨hx, hb, hml, hown, hts⟩ := id Sx
  have hl : lv_has ls 2 [(0, .ref (a 0)), (1, .int x)] := hl
  refine lv_aload_n hx hb d_C_holderOf_0 rfl (lv_at hl 0 rfl) ?_
  refine lv_iload_n hx hb d_C_holderOf_1 rfl (lv_at hl 1 rfl) ?_
  refine xro (As := [.int x]) (rest := []) Sx (ck_isThing l D a cI cII N K A hN hKK x) v_C_isThing ⟨rfl, rfl, Nat.le_of_ble_eq_true rfl, Nat.le_of_ble_eq_true rfl⟩ hK hP (ci := 0) (q0 := 0) rfl rfl rfl hl.1 rfl (Nat.le_of_ble_eq_true rfl) d_C_holderOf_2 ⟨Nat.le_of_ble_eq_true rfl, Nat.le_of_ble_eq_true rfl⟩ (fun r hq => ?_)
  subst hq
  refine lv_if_eq (tgt := 17) hx hb d_C_holderOf_5 (by decide) (fun c_5 => ?_) (fun c_5 => ?_)
  · refine lv_iconst (v := (-1 : Int32)) hx hb d_C_holderOf_17 (by decide) ?_
    exact roRet hx hb hr rfl hlk (show (-1 : Int32) = k_holderOf N K A x from by rw [k_holderOf, if_pos c_5]) d_C_holderOf_18
  · refine lv_aload_n hx hb d_C_holderOf_8 rfl (lv_at hl 0 rfl) ?_
    refine va_get (D := D) (ci := 0) (v := .ref (a 2)) (C := R_C) (T := F_C) (N := 9) hx hb hts i_C hown hK hP 0 rfl rfl 2 (by decide) (hts _ fl_C_17) (fun _ h9 => h9) rfl d_C_holderOf_9 ?_
    refine lv_iload_n hx hb d_C_holderOf_12 rfl (lv_at hl 1 rfl) ?_
    refine va_iald (n := 30) hx hb hK hP 2 0 rfl rfl (in_isThing hN c_5) d_C_holderOf_13 ?_
    refine lv_goto (tgt := 18) hx hb d_C_holderOf_14 (by decide) ?_
    exact roRet hx hb hr rfl hlk (show A 1 x.toNatClampNeg = k_holderOf N K A x from by rw [k_holderOf, if_neg c_5]) d_C_holderOf_18

def k_markOf (N K : Nat) (A : Nat → Nat → Int32) (x mk : Int32) : Int32 := (if (k_isThing N K A x) = (0 : Int32) then (0 : Int32) else (if mk < (0 : Int32) then (0 : Int32) else (if (4 : Int32) ≤ mk then (0 : Int32) else A (2 + mk.toNatClampNeg) x.toNatClampNeg)))
set_option maxHeartbeats 4000000 in
set_option maxRecDepth 100000 in
theorem ck_markOf (l : Launch) (D : va_G) (a : Nat → Nat) (cI cII : ClassId) (N K : Nat) (A : Nat → Nat → Int32) (hN : N ≤ 30) (hKK : K ≤ 10) (x mk : Int32) : Met l y_C_markOf (Cond.code y_C_markOf b_C_markOf 3 (some .int) :: BW) ({ frames := 1, cells := 0, slots := 0, locals := 21 } : Room) (PcR D (wC a cI cII (nI N) (nI K) A) (tC cI cII) [.ref (a 0), .int x, .int mk]) (vp_Si (fun r => r = k_markOf N K A x mk)) 0 0 (fun _ => False) := by
  refine roStart (by decide) rfl (Nat.le_of_ble_eq_true rfl) (fun p e s m below meth c Sx hr hlk hP hK ls hl => ?_)
  obtain ⟨hx, hb, hml, hown, hts⟩ := id Sx
  have hl : lv_has ls 3 [(0, .ref (a 0)), (1, .int x), (2, .int mk)] := hl
  refine lv_aload_n hx hb d_C_markOf_0 rfl (lv_at hl 0 rfl) ?_
  refine lv_iload_n hx hb d_C_markOf_1 rfl (lv_at hl 1 rfl) ?_
  refine xro (As := [.int x]) (rest := []) Sx (ck_isThing l D a cI cII N K A hN hKK x) v_C_isThing ⟨rfl, rfl, Nat.le_of_ble_eq_true rfl, Nat.le_of_ble_eq_true rfl⟩ hK hP (ci := 0) (q0 := 0) rfl rfl rfl hl.1 rfl (Nat.le_of_ble_eq_true rfl) d_C_markOf_2 ⟨Nat.le_of_ble_eq_true rfl, Nat.le_of_ble_eq_true rfl⟩ (fun r hq => ?_)
  subst hq
  refine lv_if_eq (tgt := 28) hx hb d_C_markOf_5 (by decide) (fun c_5 => ?_) (fun c_5 => ?_)
  · refine lv_iconst (v := (0 : Int32)) hx hb d_C_markOf_28 (by decide) ?_
    exact roRet hx hb hr rfl hlk (show (0 : Int32) = k_markOf N K A x mk from by rw [k_markOf, if_pos c_5]) d_C_markOf_29
  · refine lv_iload_n hx hb d_C_markOf_8 rfl (lv_at hl 2 rfl) ?_
    refine lv_if_lt (tgt := 28) hx hb d_C_markOf_9 (by decide) (fun c_9 => ?_) (fun c_9 => ?_)
    · refine lv_iconst (v := (0 : Int32)) hx hb d_C_markOf_28 (by decide) ?_
      exact roRet hx hb hr rfl hlk (show (0 : Int32) = k_markOf N K A x mk from by rw [k_markOf, if_neg c_5, if_pos c_9]) d_C_markOf_29
    · refine lv_iload_n hx hb d_C_markOf_12 rfl (lv_at hl 2 rfl) ?_
      refine lv_iconst (v := (4 : Int32)) hx hb d_C_markOf_13 (by decide) ?_
      refine lv_icmp_ge (tgt := 28) hx hb d_C_markOf_14 (by decide) (fun c_14 => ?_) (fun c_14 => ?_)
      · refine lv_iconst (v := (0 : Int32)) hx hb d_C_markOf_28 (by decide) ?_
        exact roRet hx hb hr rfl hlk (show (0 : Int32) = k_markOf N K A x mk from by rw [k_markOf, if_neg c_5, if_neg c_9, if_pos c_14]) d_C_markOf_29
      · refine lv_aload_n hx hb d_C_markOf_17 rfl (lv_at hl 0 rfl) ?_
        refine va_get (D := D) (ci := 0) (v := .ref (a 3)) (C := R_C) (T := F_C) (N := 9) hx hb hts i_C hown hK hP 0 rfl rfl 3 (by decide) (hts _ fl_C_22) (fun _ h9 => h9) rfl d_C_markOf_18 ?_
        refine lv_iload_n hx hb d_C_markOf_21 rfl (lv_at hl 2 rfl) ?_
        refine x_ald4 hx hb hK hP (in4 c_9 c_14) d_C_markOf_22 ?_
        refine lv_iload_n hx hb d_C_markOf_23 rfl (lv_at hl 1 rfl) ?_
        refine va_iald (n := 30) hx hb hK hP (4 + mk.toNatClampNeg) 0 (wC_row4 (vp_lt (in4 c_9 c_14))) rfl (in_isThing hN c_5) d_C_markOf_24 ?_
        refine lv_goto (tgt := 29) hx hb d_C_markOf_25 (by decide) ?_
        exact roRet hx hb hr rfl hlk (show A (2 + mk.toNatClampNeg) x.toNatClampNeg = k_markOf N K A x mk from by rw [k_markOf, if_neg c_5, if_neg c_9, if_neg c_14]) d_C_markOf_29

def k_isPerson (N K : Nat) (A : Nat → Nat → Int32) (x : Int32) : Int32 := (if (k_sortOf N K A x) = (3 : Int32) then (1 : Int32) else (0 : Int32))
set_option maxHeartbeats 4000000 in
set_option maxRecDepth 100000 in
theorem ck_isPerson (l : Launch) (D : va_G) (a : Nat → Nat) (cI cII : ClassId) (N K : Nat) (A : Nat → Nat → Int32) (hN : N ≤ 30) (hKK : K ≤ 10) (x : Int32) : Met l y_C_isPerson (Cond.code y_C_isPerson b_C_isPerson 2 (some .boolean) :: BW) ({ frames := 2, cells := 0, slots := 0, locals := 42 } : Room) (PcR D (wC a cI cII (nI N) (nI K) A) (tC cI cII) [.ref (a 0), .int x]) (vp_Si (fun r => r = k_isPerson N K A x)) 0 0 (fun _ => False) := by
  refine roStart (by decide) rfl (Nat.le_of_ble_eq_true rfl) (fun p e s m below meth c Sx hr hlk hP hK ls hl => ?_)
  obtain ⟨hx, hb, hml, hown, hts⟩ := id Sx
  have hl : lv_has ls 2 [(0, .ref (a 0)), (1, .int x)] := hl
  refine lv_aload_n hx hb d_C_isPerson_0 rfl (lv_at hl 0 rfl) ?_
  refine lv_iload_n hx hb d_C_isPerson_1 rfl (lv_at hl 1 rfl) ?_
  refine xro (As := [.int x]) (rest := []) Sx (ck_sortOf l D a cI cII N K A hN hKK x) v_C_sortOf ⟨rfl, rfl, Nat.le_of_ble_eq_true rfl, Nat.le_of_ble_eq_true rfl⟩ hK hP (ci := 0) (q0 := 0) rfl rfl rfl hl.1 rfl (Nat.le_of_ble_eq_true rfl) d_C_isPerson_2 ⟨Nat.le_of_ble_eq_true rfl, Nat.le_of_ble_eq_true rfl⟩ (fun r hq => ?_)
  subst hq
  refine lv_iconst (v := (3 : Int32)) hx hb d_C_isPerson_5 (by decide) ?_
  refine lv_icmp_ne (tgt := 13) hx hb d_C_isPerson_6 (by decide) (fun c_6 => ?_) (fun c_6 => ?_)
  · refine lv_iconst (v := (0 : Int32)) hx hb d_C_isPerson_13 (by decide) ?_
    exact roRet hx hb hr (by first | rfl | decide) hlk (show (0 : Int32) = k_isPerson N K A x from by rw [k_isPerson, if_neg c_6]) d_C_isPerson_14
  · refine lv_iconst (v := (1 : Int32)) hx hb d_C_isPerson_9 (by decide) ?_
    refine lv_goto (tgt := 14) hx hb d_C_isPerson_10 (by decide) ?_
    exact roRet hx hb hr (by first | rfl | decide) hlk (show (1 : Int32) = k_isPerson N K A x from by rw [k_isPerson, if_pos c_6]) d_C_isPerson_14
theorem isPerson_s {N K : Nat} {A : Nat → Nat → Int32} {x : Int32} (h : ¬ k_isPerson N K A x = (0 : Int32)) : k_sortOf N K A x = (3 : Int32) := by
  rw [k_isPerson] at h
  by_cases e : k_sortOf N K A x = (3 : Int32)
  · exact e
  · rw [if_neg e] at h; exact absurd rfl h
theorem in_isPerson {N K : Nat} {A : Nat → Nat → Int32} {x : Int32} (hN : N ≤ 30) (h : ¬ k_isPerson N K A x = (0 : Int32)) : vp_in x 30 := in_isThing hN (sortOf_k (isPerson_s h) (by decide))

def k_isShutBox (N K : Nat) (A : Nat → Nat → Int32) (x : Int32) : Int32 := (if (k_sortOf N K A x) = (1 : Int32) then (if (k_markOf N K A x (0 : Int32)) = (0 : Int32) then (1 : Int32) else (0 : Int32)) else (0 : Int32))
set_option maxHeartbeats 4000000 in
set_option maxRecDepth 100000 in
theorem ck_isShutBox (l : Launch) (D : va_G) (a : Nat → Nat) (cI cII : ClassId) (N K : Nat) (A : Nat → Nat → Int32) (hN : N ≤ 30) (hKK : K ≤ 10) (x : Int32) : Met l y_C_isShutBox (Cond.code y_C_isShutBox b_C_isShutBox 2 (some .boolean) :: BW) ({ frames := 2, cells := 0, slots := 0, locals := 43 } : Room) (PcR D (wC a cI cII (nI N) (nI K) A) (tC cI cII) [.ref (a 0), .int x]) (vp_Si (fun r => r = k_isShutBox N K A x)) 0 0 (fun _ => False) := by
  refine roStart (by decide) rfl (Nat.le_of_ble_eq_true rfl) (fun p e s m below meth c Sx hr hlk hP hK ls hl => ?_)
  obtain ⟨hx, hb, hml, hown, hts⟩ := id Sx
  have hl : lv_has ls 2 [(0, .ref (a 0)), (1, .int x)] := hl
  refine lv_aload_n hx hb d_C_isShutBox_0 rfl (lv_at hl 0 rfl) ?_
  refine lv_iload_n hx hb d_C_isShutBox_1 rfl (lv_at hl 1 rfl) ?_
  refine xro (As := [.int x]) (rest := []) Sx (ck_sortOf l D a cI cII N K A hN hKK x) v_C_sortOf ⟨rfl, rfl, Nat.le_of_ble_eq_true rfl, Nat.le_of_ble_eq_true rfl⟩ hK hP (ci := 0) (q0 := 0) rfl rfl rfl hl.1 rfl (Nat.le_of_ble_eq_true rfl) d_C_isShutBox_2 ⟨Nat.le_of_ble_eq_true rfl, Nat.le_of_ble_eq_true rfl⟩ (fun r hq => ?_)
  subst hq
  refine lv_iconst (v := (1 : Int32)) hx hb d_C_isShutBox_5 (by decide) ?_
  refine lv_icmp_ne (tgt := 22) hx hb d_C_isShutBox_6 (by decide) (fun c_6 => ?_) (fun c_6 => ?_)
  · refine lv_iconst (v := (0 : Int32)) hx hb d_C_isShutBox_22 (by decide) ?_
    exact roRet hx hb hr (by first | rfl | decide) hlk (show (0 : Int32) = k_isShutBox N K A x from by rw [k_isShutBox, if_neg c_6]) d_C_isShutBox_23
  · refine lv_aload_n hx hb d_C_isShutBox_9 rfl (lv_at hl 0 rfl) ?_
    refine lv_iload_n hx hb d_C_isShutBox_10 rfl (lv_at hl 1 rfl) ?_
    refine lv_iconst (v := (0 : Int32)) hx hb d_C_isShutBox_11 (by decide) ?_
    refine xro (As := [.int x, .int (0 : Int32)]) (rest := []) Sx (ck_markOf l D a cI cII N K A hN hKK x (0 : Int32)) v_C_markOf ⟨rfl, rfl, Nat.le_of_ble_eq_true rfl, Nat.le_of_ble_eq_true rfl⟩ hK hP (ci := 0) (q0 := 0) rfl rfl rfl hl.1 rfl (Nat.le_of_ble_eq_true rfl) d_C_isShutBox_12 ⟨Nat.le_of_ble_eq_true rfl, Nat.le_of_ble_eq_true rfl⟩ (fun r hq => ?_)
    subst hq
    refine lv_if_ne (tgt := 22) hx hb d_C_isShutBox_15 (by decide) (fun c_15 => ?_) (fun c_15 => ?_)
    · refine lv_iconst (v := (0 : Int32)) hx hb d_C_isShutBox_22 (by decide) ?_
      exact roRet hx hb hr (by first | rfl | decide) hlk (show (0 : Int32) = k_isShutBox N K A x from by rw [k_isShutBox, if_pos c_6, if_neg c_15]) d_C_isShutBox_23
    · refine lv_iconst (v := (1 : Int32)) hx hb d_C_isShutBox_18 (by decide) ?_
      refine lv_goto (tgt := 23) hx hb d_C_isShutBox_19 (by decide) ?_
      exact roRet hx hb hr (by first | rfl | decide) hlk (show (1 : Int32) = k_isShutBox N K A x from by rw [k_isShutBox, if_pos c_6, if_pos c_15]) d_C_isShutBox_23

def k_isSpace (N K : Nat) (A : Nat → Nat → Int32) (x : Int32) : Int32 := (if (k_sortOf N K A x) = (0 : Int32) then (1 : Int32) else (if (k_sortOf N K A x) = (1 : Int32) then (1 : Int32) else (0 : Int32)))
set_option maxHeartbeats 4000000 in
set_option maxRecDepth 100000 in
theorem ck_isSpace (l : Launch) (D : va_G) (a : Nat → Nat) (cI cII : ClassId) (N K : Nat) (A : Nat → Nat → Int32) (hN : N ≤ 30) (hKK : K ≤ 10) (x : Int32) : Met l y_C_isSpace (Cond.code y_C_isSpace b_C_isSpace 3 (some .boolean) :: BW) ({ frames := 2, cells := 0, slots := 0, locals := 42 } : Room) (PcR D (wC a cI cII (nI N) (nI K) A) (tC cI cII) [.ref (a 0), .int x]) (vp_Si (fun r => r = k_isSpace N K A x)) 0 0 (fun _ => False) := by
  refine roStart (by decide) rfl (Nat.le_of_ble_eq_true rfl) (fun p e s m below meth c Sx hr hlk hP hK ls hl => ?_)
  obtain ⟨hx, hb, hml, hown, hts⟩ := id Sx
  have hl : lv_has ls 3 [(0, .ref (a 0)), (1, .int x)] := hl
  refine lv_aload_n hx hb d_C_isSpace_0 rfl (lv_at hl 0 rfl) ?_
  refine lv_iload_n hx hb d_C_isSpace_1 rfl (lv_at hl 1 rfl) ?_
  refine xro (As := [.int x]) (rest := []) Sx (ck_sortOf l D a cI cII N K A hN hKK x) v_C_sortOf ⟨rfl, rfl, Nat.le_of_ble_eq_true rfl, Nat.le_of_ble_eq_true rfl⟩ hK hP (ci := 0) (q0 := 0) rfl rfl rfl hl.1 rfl (Nat.le_of_ble_eq_true rfl) d_C_isSpace_2 ⟨Nat.le_of_ble_eq_true rfl, Nat.le_of_ble_eq_true rfl⟩ (fun r hq => ?_)
  subst hq
  refine lv_istore_n (lv' := [(2, .int (k_sortOf N K A x)), (0, .ref (a 0)), (1, .int x)]) hx hb d_C_isSpace_5 rfl hl (by decide) rfl (fun ls hl => ?_)
  refine lv_iload_n hx hb d_C_isSpace_6 rfl (lv_at hl 0 rfl) ?_
  refine lv_if_eq (tgt := 15) hx hb d_C_isSpace_7 (by decide) (fun c_7 => ?_) (fun c_7 => ?_)
  · refine lv_iconst (v := (1 : Int32)) hx hb d_C_isSpace_15 (by decide) ?_
    refine lv_goto (tgt := 20) hx hb d_C_isSpace_16 (by decide) ?_
    exact roRet hx hb hr (by first | rfl | decide) hlk (show (1 : Int32) = k_isSpace N K A x from by rw [k_isSpace, if_pos c_7]) d_C_isSpace_20
  · refine lv_iload_n hx hb d_C_isSpace_10 rfl (lv_at hl 0 rfl) ?_
    refine lv_iconst (v := (1 : Int32)) hx hb d_C_isSpace_11 (by decide) ?_
    refine lv_icmp_ne (tgt := 19) hx hb d_C_isSpace_12 (by decide) (fun c_12 => ?_) (fun c_12 => ?_)
    · refine lv_iconst (v := (0 : Int32)) hx hb d_C_isSpace_19 (by decide) ?_
      exact roRet hx hb hr (by first | rfl | decide) hlk (show (0 : Int32) = k_isSpace N K A x from by rw [k_isSpace, if_neg c_7, if_neg c_12]) d_C_isSpace_20
    · refine lv_iconst (v := (1 : Int32)) hx hb d_C_isSpace_15 (by decide) ?_
      refine lv_goto (tgt := 20) hx hb d_C_isSpace_16 (by decide) ?_
      exact roRet hx hb hr (by first | rfl | decide) hlk (show (1 : Int32) = k_isSpace N K A x from by rw [k_isSpace, if_neg c_7, if_pos c_12]) d_C_isSpace_20
theorem isSpace_s {N K : Nat} {A : Nat → Nat → Int32} {x : Int32} (h : ¬ k_isSpace N K A x = (0 : Int32)) : k_sortOf N K A x = (0 : Int32) ∨ k_sortOf N K A x = (1 : Int32) := by
  rw [k_isSpace] at h
  by_cases e : k_sortOf N K A x = (0 : Int32)
  · exact Or.inl e
  · rw [if_neg e] at h
    by_cases e : k_sortOf N K A x = (1 : Int32)
    · exact Or.inr e
    · rw [if_neg e] at h; exact absurd rfl h
theorem isSpace_T {N K : Nat} {A : Nat → Nat → Int32} {x : Int32} (h : ¬ k_isSpace N K A x = (0 : Int32)) : ¬ k_isThing N K A x = (0 : Int32) := by
  rcases isSpace_s h with e | e
  · exact sortOf_k e (by decide)
  · exact sortOf_k e (by decide)
theorem in_isSpace {N K : Nat} {A : Nat → Nat → Int32} {x : Int32} (hN : N ≤ 30) (h : ¬ k_isSpace N K A x = (0 : Int32)) : vp_in x 30 := in_isThing hN (isSpace_T h)

def k_mayBeGivenTo (N K : Nat) (A : Nat → Nat → Int32) (x : Int32) : Int32 := (if (k_sortOf N K A x) = (1 : Int32) then (1 : Int32) else (if (k_sortOf N K A x) = (2 : Int32) then (1 : Int32) else (if (k_sortOf N K A x) = (3 : Int32) then (1 : Int32) else (0 : Int32))))
set_option maxHeartbeats 4000000 in
set_option maxRecDepth 100000 in
theorem ck_mayBeGivenTo (l : Launch) (D : va_G) (a : Nat → Nat) (cI cII : ClassId) (N K : Nat) (A : Nat → Nat → Int32) (hN : N ≤ 30) (hKK : K ≤ 10) (x : Int32) : Met l y_C_mayBeGivenTo (Cond.code y_C_mayBeGivenTo b_C_mayBeGivenTo 3 (some .boolean) :: BW) ({ frames := 2, cells := 0, slots := 0, locals := 42 } : Room) (PcR D (wC a cI cII (nI N) (nI K) A) (tC cI cII) [.ref (a 0), .int x]) (vp_Si (fun r => r = k_mayBeGivenTo N K A x)) 0 0 (fun _ => False) := by
  refine roStart (by decide) rfl (Nat.le_of_ble_eq_true rfl) (fun p e s m below meth c Sx hr hlk hP hK ls hl => ?_)
  obtain ⟨hx, hb, hml, hown, hts⟩ := id Sx
  have hl : lv_has ls 3 [(0, .ref (a 0)), (1, .int x)] := hl
  refine lv_aload_n hx hb d_C_mayBeGivenTo_0 rfl (lv_at hl 0 rfl) ?_
  refine lv_iload_n hx hb d_C_mayBeGivenTo_1 rfl (lv_at hl 1 rfl) ?_
  refine xro (As := [.int x]) (rest := []) Sx (ck_sortOf l D a cI cII N K A hN hKK x) v_C_sortOf ⟨rfl, rfl, Nat.le_of_ble_eq_true rfl, Nat.le_of_ble_eq_true rfl⟩ hK hP (ci := 0) (q0 := 0) rfl rfl rfl hl.1 rfl (Nat.le_of_ble_eq_true rfl) d_C_mayBeGivenTo_2 ⟨Nat.le_of_ble_eq_true rfl, Nat.le_of_ble_eq_true rfl⟩ (fun r hq => ?_)
  subst hq
  refine lv_istore_n (lv' := [(2, .int (k_sortOf N K A x)), (0, .ref (a 0)), (1, .int x)]) hx hb d_C_mayBeGivenTo_5 rfl hl (by decide) rfl (fun ls hl => ?_)
  refine lv_iload_n hx hb d_C_mayBeGivenTo_6 rfl (lv_at hl 0 rfl) ?_
  refine lv_iconst (v := (1 : Int32)) hx hb d_C_mayBeGivenTo_7 (by decide) ?_
  refine lv_icmp_eq (tgt := 21) hx hb d_C_mayBeGivenTo_8 (by decide) (fun c_8 => ?_) (fun c_8 => ?_)
  · refine lv_iconst (v := (1 : Int32)) hx hb d_C_mayBeGivenTo_21 (by decide) ?_
    refine lv_goto (tgt := 26) hx hb d_C_mayBeGivenTo_22 (by decide) ?_
    exact roRet hx hb hr (by first | rfl | decide) hlk (show (1 : Int32) = k_mayBeGivenTo N K A x from by rw [k_mayBeGivenTo, if_pos c_8]) d_C_mayBeGivenTo_26
  · refine lv_iload_n hx hb d_C_mayBeGivenTo_11 rfl (lv_at hl 0 rfl) ?_
    refine lv_iconst (v := (2 : Int32)) hx hb d_C_mayBeGivenTo_12 (by decide) ?_
    refine lv_icmp_eq (tgt := 21) hx hb d_C_mayBeGivenTo_13 (by decide) (fun c_13 => ?_) (fun c_13 => ?_)
    · refine lv_iconst (v := (1 : Int32)) hx hb d_C_mayBeGivenTo_21 (by decide) ?_
      refine lv_goto (tgt := 26) hx hb d_C_mayBeGivenTo_22 (by decide) ?_
      exact roRet hx hb hr (by first | rfl | decide) hlk (show (1 : Int32) = k_mayBeGivenTo N K A x from by rw [k_mayBeGivenTo, if_neg c_8, if_pos c_13]) d_C_mayBeGivenTo_26
    · refine lv_iload_n hx hb d_C_mayBeGivenTo_16 rfl (lv_at hl 0 rfl) ?_
      refine lv_iconst (v := (3 : Int32)) hx hb d_C_mayBeGivenTo_17 (by decide) ?_
      refine lv_icmp_ne (tgt := 25) hx hb d_C_mayBeGivenTo_18 (by decide) (fun c_18 => ?_) (fun c_18 => ?_)
      · refine lv_iconst (v := (0 : Int32)) hx hb d_C_mayBeGivenTo_25 (by decide) ?_
        exact roRet hx hb hr (by first | rfl | decide) hlk (show (0 : Int32) = k_mayBeGivenTo N K A x from by rw [k_mayBeGivenTo, if_neg c_8, if_neg c_13, if_neg c_18]) d_C_mayBeGivenTo_26
      · refine lv_iconst (v := (1 : Int32)) hx hb d_C_mayBeGivenTo_21 (by decide) ?_
        refine lv_goto (tgt := 26) hx hb d_C_mayBeGivenTo_22 (by decide) ?_
        exact roRet hx hb hr (by first | rfl | decide) hlk (show (1 : Int32) = k_mayBeGivenTo N K A x from by rw [k_mayBeGivenTo, if_neg c_8, if_neg c_13, if_pos c_18]) d_C_mayBeGivenTo_26

def k_hasInHands (N K : Nat) (A : Nat → Nat → Int32) (who x : Int32) : Int32 := (if (k_isPerson N K A who) = (0 : Int32) then (0 : Int32) else (if (k_isThing N K A x) = (0 : Int32) then (0 : Int32) else (if (k_holderOf N K A x) = who then (1 : Int32) else (0 : Int32))))
set_option maxHeartbeats 4000000 in
set_option maxRecDepth 100000 in
theorem ck_hasInHands (l : Launch) (D : va_G) (a : Nat → Nat) (cI cII : ClassId) (N K : Nat) (A : Nat → Nat → Int32) (hN : N ≤ 30) (hKK : K ≤ 10) (who x : Int32) : Met l y_C_hasInHands (Cond.code y_C_hasInHands b_C_hasInHands 3 (some .boolean) :: BW) ({ frames := 3, cells := 0, slots := 0, locals := 63 } : Room) (PcR D (wC a cI cII (nI N) (nI K) A) (tC cI cII) [.ref (a 0), .int who, .int x]) (vp_Si (fun r => r = k_hasInHands N K A who x)) 0 0 (fun _ => False) := by
  refine roStart (by decide) rfl (Nat.le_of_ble_eq_true rfl) (fun p e s m below meth c Sx hr hlk hP hK ls hl => ?_)
  obtain ⟨hx, hb, hml, hown, hts⟩ := id Sx
  have hl : lv_has ls 3 [(0, .ref (a 0)), (1, .int who), (2, .int x)] := hl
  refine lv_aload_n hx hb d_C_hasInHands_0 rfl (lv_at hl 0 rfl) ?_
  refine lv_iload_n hx hb d_C_hasInHands_1 rfl (lv_at hl 1 rfl) ?_
  refine xro (As := [.int who]) (rest := []) Sx (ck_isPerson l D a cI cII N K A hN hKK who) v_C_isPerson ⟨rfl, rfl, Nat.le_of_ble_eq_true rfl, Nat.le_of_ble_eq_true rfl⟩ hK hP (ci := 0) (q0 := 0) rfl rfl rfl hl.1 rfl (Nat.le_of_ble_eq_true rfl) d_C_hasInHands_2 ⟨Nat.le_of_ble_eq_true rfl, Nat.le_of_ble_eq_true rfl⟩ (fun r hq => ?_)
  subst hq
  refine lv_if_eq (tgt := 29) hx hb d_C_hasInHands_5 (by decide) (fun c_5 => ?_) (fun c_5 => ?_)
  · refine lv_iconst (v := (0 : Int32)) hx hb d_C_hasInHands_29 (by decide) ?_
    exact roRet hx hb hr (by first | rfl | decide) hlk (show (0 : Int32) = k_hasInHands N K A who x from by rw [k_hasInHands, if_pos c_5]) d_C_hasInHands_30
  · refine lv_aload_n hx hb d_C_hasInHands_8 rfl (lv_at hl 0 rfl) ?_
    refine lv_iload_n hx hb d_C_hasInHands_9 rfl (lv_at hl 2 rfl) ?_
    refine xro (As := [.int x]) (rest := []) Sx (ck_isThing l D a cI cII N K A hN hKK x) v_C_isThing ⟨rfl, rfl, Nat.le_of_ble_eq_true rfl, Nat.le_of_ble_eq_true rfl⟩ hK hP (ci := 0) (q0 := 0) rfl rfl rfl hl.1 rfl (Nat.le_of_ble_eq_true rfl) d_C_hasInHands_10 ⟨Nat.le_of_ble_eq_true rfl, Nat.le_of_ble_eq_true rfl⟩ (fun r hq => ?_)
    subst hq
    refine lv_if_eq (tgt := 29) hx hb d_C_hasInHands_13 (by decide) (fun c_13 => ?_) (fun c_13 => ?_)
    · refine lv_iconst (v := (0 : Int32)) hx hb d_C_hasInHands_29 (by decide) ?_
      exact roRet hx hb hr (by first | rfl | decide) hlk (show (0 : Int32) = k_hasInHands N K A who x from by rw [k_hasInHands, if_neg c_5, if_pos c_13]) d_C_hasInHands_30
    · refine lv_aload_n hx hb d_C_hasInHands_16 rfl (lv_at hl 0 rfl) ?_
      refine lv_iload_n hx hb d_C_hasInHands_17 rfl (lv_at hl 2 rfl) ?_
      refine xro (As := [.int x]) (rest := []) Sx (ck_holderOf l D a cI cII N K A hN hKK x) v_C_holderOf ⟨rfl, rfl, Nat.le_of_ble_eq_true rfl, Nat.le_of_ble_eq_true rfl⟩ hK hP (ci := 0) (q0 := 0) rfl rfl rfl hl.1 rfl (Nat.le_of_ble_eq_true rfl) d_C_hasInHands_18 ⟨Nat.le_of_ble_eq_true rfl, Nat.le_of_ble_eq_true rfl⟩ (fun r hq => ?_)
      subst hq
      refine lv_iload_n hx hb d_C_hasInHands_21 rfl (lv_at hl 1 rfl) ?_
      refine lv_icmp_ne (tgt := 29) hx hb d_C_hasInHands_22 (by decide) (fun c_22 => ?_) (fun c_22 => ?_)
      · refine lv_iconst (v := (0 : Int32)) hx hb d_C_hasInHands_29 (by decide) ?_
        exact roRet hx hb hr (by first | rfl | decide) hlk (show (0 : Int32) = k_hasInHands N K A who x from by rw [k_hasInHands, if_neg c_5, if_neg c_13, if_neg c_22]) d_C_hasInHands_30
      · refine lv_iconst (v := (1 : Int32)) hx hb d_C_hasInHands_25 (by decide) ?_
        refine lv_goto (tgt := 30) hx hb d_C_hasInHands_26 (by decide) ?_
        exact roRet hx hb hr (by first | rfl | decide) hlk (show (1 : Int32) = k_hasInHands N K A who x from by rw [k_hasInHands, if_neg c_5, if_neg c_13, if_pos c_22]) d_C_hasInHands_30
theorem hasInHands_s {N K : Nat} {A : Nat → Nat → Int32} {x : Int32} {who : Int32} (h : ¬ k_hasInHands N K A who x = (0 : Int32)) : ¬ k_isPerson N K A who = (0 : Int32) ∧ ¬ k_isThing N K A x = (0 : Int32) ∧ k_holderOf N K A x = who := by
  rw [k_hasInHands] at h
  by_cases e1 : k_isPerson N K A who = (0 : Int32)
  · rw [if_pos e1] at h; exact absurd rfl h
  · rw [if_neg e1] at h
    by_cases e2 : k_isThing N K A x = (0 : Int32)
    · rw [if_pos e2] at h; exact absurd rfl h
    · rw [if_neg e2] at h
      by_cases e3 : k_holderOf N K A x = who
      · exact ⟨e1, e2, e3⟩
      · rw [if_neg e3] at h; exact absurd rfl h
theorem in_hasInHands {N K : Nat} {A : Nat → Nat → Int32} {x : Int32} {who : Int32} (hN : N ≤ 30) (h : ¬ k_hasInHands N K A who x = (0 : Int32)) : vp_in x 30 := in_isThing hN (hasInHands_s h).2.1

def k_countHeldBy_4 (N K : Nat) (A : Nat → Nat → Int32) (x : Int32) : Nat → Nat → Int32 → Int32
  | 0, i, v2 => v2
  | k + 1, i, v2 => (if (A 1 (nI i).toNatClampNeg) = x then k_countHeldBy_4 N K A x k (i + 1) (v2 + 1) else k_countHeldBy_4 N K A x k (i + 1) v2)
theorem k_countHeldBy_4_0 (N K : Nat) (A : Nat → Nat → Int32) (x : Int32) (i : Nat) (v2 : Int32) : k_countHeldBy_4 N K A x 0 i v2 = v2 := rfl
theorem k_countHeldBy_4_S (N K : Nat) (A : Nat → Nat → Int32) (x : Int32) (k i : Nat) (v2 : Int32) : k_countHeldBy_4 N K A x (k + 1) i v2 = (if (A 1 (nI i).toNatClampNeg) = x then k_countHeldBy_4 N K A x k (i + 1) (v2 + 1) else k_countHeldBy_4 N K A x k (i + 1) v2) := rfl
set_option maxHeartbeats 4000000 in
set_option maxRecDepth 100000 in
theorem wk_countHeldBy_4 (l : Launch) (D : va_G) (a : Nat → Nat) (cI cII : ClassId) (N K : Nat) (A : Nat → Nat → Int32) (hN : N ≤ 30) (hKK : K ≤ 10) (x : Int32) {p : Program} {e : Env} {s : State} {m : MethodId} {below : List Frame} {meth : Method} {c : Code} (Sx : CallFix p m c b_C_countHeldBy 4 s ([.ref (a 0), .int x] : List Value).toArray BW R_C) (hr : meth.sig.returnType = (some .int)) (hlk : meth.locks = false) (hP : va_P D classes (wC a cI cII (nI N) (nI K) A) s.heap) (hK : va_K D classes (tC cI cII) s) : ∀ (k i : Nat), i + k = N → ∀ (v2 : Int32) (ls : Array Slot), lv_has ls 4 [(0, .ref (a 0)), (1, .int x), (2, .int v2), (3, .int (nI i))] → W p l e ({ frames := 0, cells := 0, slots := 0, locals := 0 } : Room) s m ([.ref (a 0), .int x] : List Value).toArray below meth c s.heap [] 0 0 (MQ below (vp_Si (fun r => r = k_countHeldBy_4 N K A x k i v2)) ([.ref (a 0), .int x] : List Value).toArray s 0 0 (fun _ => False)) (F0 m 4 ls []) := by
  obtain ⟨hx, hb, hml, hown, hts⟩ := id Sx
  intro k
  induction k with
  | zero =>
    intro i hi v2 ls hl
    refine lv_iload_n hx hb d_C_countHeldBy_4 rfl (lv_at hl 3 rfl) ?_
    refine lv_aload_n hx hb d_C_countHeldBy_5 rfl (lv_at hl 0 rfl) ?_
    refine va_get (D := D) (ci := 0) (v := .int (nI N)) (C := R_C) (T := F_C) (N := 9) hx hb hts i_C hown hK hP 0 rfl rfl 0 (by decide) (hts _ fl_C_7) (fun _ h9 => h9) rfl d_C_countHeldBy_6 ?_
    refine lv_icmp_ge (tgt := 31) hx hb d_C_countHeldBy_9 (by decide) (fun c_9 => ?_) (fun c_9 => absurd (nI_le (a := N) (b := i) (by omega) (by omega)) c_9)
    refine lv_iload_n hx hb d_C_countHeldBy_31 rfl (lv_at hl 2 rfl) ?_
    exact roRet hx hb hr rfl hlk (show v2 = k_countHeldBy_4 N K A x 0 i v2 from by rw [k_countHeldBy_4_0]) d_C_countHeldBy_32
  | succ k ih =>
    intro i hi v2 ls hl
    refine lv_iload_n hx hb d_C_countHeldBy_4 rfl (lv_at hl 3 rfl) ?_
    refine lv_aload_n hx hb d_C_countHeldBy_5 rfl (lv_at hl 0 rfl) ?_
    refine va_get (D := D) (ci := 0) (v := .int (nI N)) (C := R_C) (T := F_C) (N := 9) hx hb hts i_C hown hK hP 0 rfl rfl 0 (by decide) (hts _ fl_C_7) (fun _ h9 => h9) rfl d_C_countHeldBy_6 ?_
    refine lv_icmp_ge (tgt := 31) hx hb d_C_countHeldBy_9 (by decide) (fun c_9 => absurd c_9 (nI_ge (a := i) (b := N) (by omega) (by omega))) (fun c_9 => ?_)
    refine lv_aload_n hx hb d_C_countHeldBy_12 rfl (lv_at hl 0 rfl) ?_
    refine va_get (D := D) (ci := 0) (v := .ref (a 2)) (C := R_C) (T := F_C) (N := 9) hx hb hts i_C hown hK hP 0 rfl rfl 2 (by decide) (hts _ fl_C_17) (fun _ h9 => h9) rfl d_C_countHeldBy_13 ?_
    refine lv_iload_n hx hb d_C_countHeldBy_16 rfl (lv_at hl 3 rfl) ?_
    refine va_iald (n := 30) hx hb hK hP 2 0 rfl rfl (vp_in_nI (by omega) (by omega)) d_C_countHeldBy_17 ?_
    refine lv_iload_n hx hb d_C_countHeldBy_18 rfl (lv_at hl 1 rfl) ?_
    refine lv_icmp_ne (tgt := 25) hx hb d_C_countHeldBy_19 (by decide) (fun c_19 => ?_) (fun c_19 => ?_)
    · refine lv_iinc (v := nI (i + 1)) (lv' := [(3, .int (nI (i + 1))), (0, .ref (a 0)), (1, .int x), (2, .int v2)]) hx hb d_C_countHeldBy_25 hl (k := 3) rfl (nI_1 i) (by decide) rfl (fun ls hl => ?_)
      refine lv_goto (tgt := 4) hx hb d_C_countHeldBy_28 (by decide) ?_
      have e_b : k_countHeldBy_4 N K A x (k + 1) i v2 = k_countHeldBy_4 N K A x k (i + 1) v2 := by rw [k_countHeldBy_4_S, if_neg c_19]
      rw [e_b]
      exact ih (i + 1) (by omega) v2 ls (lv_sub hl [1, 2, 3, 0] rfl)
    · refine lv_iinc (v := v2 + 1) (lv' := [(2, .int (v2 + 1)), (0, .ref (a 0)), (1, .int x), (3, .int (nI i))]) hx hb d_C_countHeldBy_22 hl (k := 2) rfl (rfl) (by decide) rfl (fun ls hl => ?_)
      refine lv_iinc (v := nI (i + 1)) (lv' := [(3, .int (nI (i + 1))), (2, .int (v2 + 1)), (0, .ref (a 0)), (1, .int x)]) hx hb d_C_countHeldBy_25 hl (k := 3) rfl (nI_1 i) (by decide) rfl (fun ls hl => ?_)
      refine lv_goto (tgt := 4) hx hb d_C_countHeldBy_28 (by decide) ?_
      have e_b : k_countHeldBy_4 N K A x (k + 1) i v2 = k_countHeldBy_4 N K A x k (i + 1) (v2 + 1) := by rw [k_countHeldBy_4_S, if_pos c_19]
      rw [e_b]
      exact ih (i + 1) (by omega) (v2 + 1) ls (lv_sub hl [2, 3, 1, 0] rfl)
def k_countHeldBy (N K : Nat) (A : Nat → Nat → Int32) (x : Int32) : Int32 := k_countHeldBy_4 N K A x N 0 (0 : Int32)
set_option maxHeartbeats 4000000 in
set_option maxRecDepth 100000 in
theorem ck_countHeldBy (l : Launch) (D : va_G) (a : Nat → Nat) (cI cII : ClassId) (N K : Nat) (A : Nat → Nat → Int32) (hN : N ≤ 30) (hKK : K ≤ 10) (x : Int32) : Met l y_C_countHeldBy (Cond.code y_C_countHeldBy b_C_countHeldBy 4 (some .int) :: BW) ({ frames := 0, cells := 0, slots := 0, locals := 0 } : Room) (PcR D (wC a cI cII (nI N) (nI K) A) (tC cI cII) [.ref (a 0), .int x]) (vp_Si (fun r => r = k_countHeldBy N K A x)) 0 0 (fun _ => False) := by
  refine roStart (by decide) rfl (Nat.le_of_ble_eq_true rfl) (fun p e s m below meth c Sx hr hlk hP hK ls hl => ?_)
  obtain ⟨hx, hb, hml, hown, hts⟩ := id Sx
  have hl : lv_has ls 4 [(0, .ref (a 0)), (1, .int x)] := hl
  refine lv_iconst (v := (0 : Int32)) hx hb d_C_countHeldBy_0 (by decide) ?_
  refine lv_istore_n (lv' := [(2, .int (0 : Int32)), (0, .ref (a 0)), (1, .int x)]) hx hb d_C_countHeldBy_1 rfl hl (by decide) rfl (fun ls hl => ?_)
  refine lv_iconst (v := (0 : Int32)) hx hb d_C_countHeldBy_2 (by decide) ?_
  refine lv_istore_n (lv' := [(3, .int (0 : Int32)), (2, .int (0 : Int32)), (0, .ref (a 0)), (1, .int x)]) hx hb d_C_countHeldBy_3 rfl hl (by decide) rfl (fun ls hl => ?_)
  have e_4 : k_countHeldBy N K A x = k_countHeldBy_4 N K A x N 0 (0 : Int32) := by rw [k_countHeldBy]
  rw [e_4]
  exact wk_countHeldBy_4 l D a cI cII N K A hN hKK x Sx hr hlk hP hK N 0 (by omega) (0 : Int32) ls (lv_sub hl [2, 3, 1, 0] rfl)

def k_isFull (N K : Nat) (A : Nat → Nat → Int32) (x : Int32) : Int32 := (if (k_sortOf N K A x) = (0 : Int32) then (0 : Int32) else (if (k_countHeldBy N K A x) < (8 : Int32) then (0 : Int32) else (1 : Int32)))
set_option maxHeartbeats 4000000 in
set_option maxRecDepth 100000 in
theorem ck_isFull (l : Launch) (D : va_G) (a : Nat → Nat) (cI cII : ClassId) (N K : Nat) (A : Nat → Nat → Int32) (hN : N ≤ 30) (hKK : K ≤ 10) (x : Int32) : Met l y_C_isFull (Cond.code y_C_isFull b_C_isFull 2 (some .boolean) :: BW) ({ frames := 2, cells := 0, slots := 0, locals := 42 } : Room) (PcR D (wC a cI cII (nI N) (nI K) A) (tC cI cII) [.ref (a 0), .int x]) (vp_Si (fun r => r = k_isFull N K A x)) 0 0 (fun _ => False) := by
  refine roStart (by decide) rfl (Nat.le_of_ble_eq_true rfl) (fun p e s m below meth c Sx hr hlk hP hK ls hl => ?_)
  obtain ⟨hx, hb, hml, hown, hts⟩ := id Sx
  have hl : lv_has ls 2 [(0, .ref (a 0)), (1, .int x)] := hl
  refine lv_aload_n hx hb d_C_isFull_0 rfl (lv_at hl 0 rfl) ?_
  refine lv_iload_n hx hb d_C_isFull_1 rfl (lv_at hl 1 rfl) ?_
  refine xro (As := [.int x]) (rest := []) Sx (ck_sortOf l D a cI cII N K A hN hKK x) v_C_sortOf ⟨rfl, rfl, Nat.le_of_ble_eq_true rfl, Nat.le_of_ble_eq_true rfl⟩ hK hP (ci := 0) (q0 := 0) rfl rfl rfl hl.1 rfl (Nat.le_of_ble_eq_true rfl) d_C_isFull_2 ⟨Nat.le_of_ble_eq_true rfl, Nat.le_of_ble_eq_true rfl⟩ (fun r hq => ?_)
  subst hq
  refine lv_if_eq (tgt := 22) hx hb d_C_isFull_5 (by decide) (fun c_5 => ?_) (fun c_5 => ?_)
  · refine lv_iconst (v := (0 : Int32)) hx hb d_C_isFull_22 (by decide) ?_
    exact roRet hx hb hr (by first | rfl | decide) hlk (show (0 : Int32) = k_isFull N K A x from by rw [k_isFull, if_pos c_5]) d_C_isFull_23
  · refine lv_aload_n hx hb d_C_isFull_8 rfl (lv_at hl 0 rfl) ?_
    refine lv_iload_n hx hb d_C_isFull_9 rfl (lv_at hl 1 rfl) ?_
    refine xro (As := [.int x]) (rest := []) Sx (ck_countHeldBy l D a cI cII N K A hN hKK x) v_C_countHeldBy ⟨rfl, rfl, Nat.le_of_ble_eq_true rfl, Nat.le_of_ble_eq_true rfl⟩ hK hP (ci := 0) (q0 := 0) rfl rfl rfl hl.1 rfl (Nat.le_of_ble_eq_true rfl) d_C_isFull_10 ⟨Nat.le_of_ble_eq_true rfl, Nat.le_of_ble_eq_true rfl⟩ (fun r hq => ?_)
    subst hq
    refine lv_bipush (v := (8 : Int32)) hx hb d_C_isFull_13 (by decide) ?_
    refine lv_icmp_lt (tgt := 22) hx hb d_C_isFull_15 (by decide) (fun c_15 => ?_) (fun c_15 => ?_)
    · refine lv_iconst (v := (0 : Int32)) hx hb d_C_isFull_22 (by decide) ?_
      exact roRet hx hb hr (by first | rfl | decide) hlk (show (0 : Int32) = k_isFull N K A x from by rw [k_isFull, if_neg c_5, if_pos c_15]) d_C_isFull_23
    · refine lv_iconst (v := (1 : Int32)) hx hb d_C_isFull_18 (by decide) ?_
      refine lv_goto (tgt := 23) hx hb d_C_isFull_19 (by decide) ?_
      exact roRet hx hb hr (by first | rfl | decide) hlk (show (1 : Int32) = k_isFull N K A x from by rw [k_isFull, if_neg c_5, if_neg c_15]) d_C_isFull_23

def k_isWithin_9 (N K : Nat) (A : Nat → Nat → Int32) (outer : Int32) : Nat → Nat → Int32 → Int32
  | 0, i, v3 => (0 : Int32)
  | k + 1, i, v3 => (if v3 = (-1 : Int32) then (0 : Int32) else (if v3 = outer then (1 : Int32) else k_isWithin_9 N K A outer k (i + 1) (k_holderOf N K A v3)))
theorem k_isWithin_9_0 (N K : Nat) (A : Nat → Nat → Int32) (outer : Int32) (i : Nat) (v3 : Int32) : k_isWithin_9 N K A outer 0 i v3 = (0 : Int32) := rfl
theorem k_isWithin_9_S (N K : Nat) (A : Nat → Nat → Int32) (outer : Int32) (k i : Nat) (v3 : Int32) : k_isWithin_9 N K A outer (k + 1) i v3 = (if v3 = (-1 : Int32) then (0 : Int32) else (if v3 = outer then (1 : Int32) else k_isWithin_9 N K A outer k (i + 1) (k_holderOf N K A v3))) := rfl
set_option maxHeartbeats 4000000 in
set_option maxRecDepth 100000 in
theorem wk_isWithin_9 (l : Launch) (D : va_G) (a : Nat → Nat) (cI cII : ClassId) (N K : Nat) (A : Nat → Nat → Int32) (hN : N ≤ 30) (hKK : K ≤ 10) (x outer : Int32) {p : Program} {e : Env} {s : State} {m : MethodId} {below : List Frame} {meth : Method} {c : Code} (Sx : CallFix p m c b_C_isWithin 5 s ([.ref (a 0), .int x, .int outer] : List Value).toArray BW R_C) (hr : meth.sig.returnType = (some .boolean)) (hlk : meth.locks = false) (hP : va_P D classes (wC a cI cII (nI N) (nI K) A) s.heap) (hK : va_K D classes (tC cI cII) s) : ∀ (k i : Nat), i + k = 30 → ∀ (v3 : Int32) (ls : Array Slot), lv_has ls 5 [(0, .ref (a 0)), (1, .int x), (2, .int outer), (3, .int v3), (4, .int (nI i))] → W p l e ({ frames := 2, cells := 0, slots := 0, locals := 42 } : Room) s m ([.ref (a 0), .int x, .int outer] : List Value).toArray below meth c s.heap [] 0 0 (MQ below (vp_Si (fun r => r = k_isWithin_9 N K A outer k i v3)) ([.ref (a 0), .int x, .int outer] : List Value).toArray s 0 0 (fun _ => False)) (F0 m 9 ls []) := by
  obtain ⟨hx, hb, hml, hown, hts⟩ := id Sx
  intro k
  induction k with
  | zero =>
    intro i hi v3 ls hl
    refine lv_iload hx hb d_C_isWithin_9 (lv_at hl 4 rfl) ?_
    refine lv_bipush (v := (30 : Int32)) hx hb d_C_isWithin_11 (by decide) ?_
    refine lv_icmp_ge (tgt := 40) hx hb d_C_isWithin_13 (by decide) (fun c_13 => ?_) (fun c_13 => absurd (nI_le (a := 30) (b := i) (by omega) (by omega)) c_13)
    refine lv_iconst (v := (0 : Int32)) hx hb d_C_isWithin_40 (by decide) ?_
    exact roRet hx hb hr (by first | rfl | decide) hlk (show (0 : Int32) = k_isWithin_9 N K A outer 0 i v3 from by rw [k_isWithin_9_0]) d_C_isWithin_41
  | succ k ih =>
    intro i hi v3 ls hl
    refine lv_iload hx hb d_C_isWithin_9 (lv_at hl 4 rfl) ?_
    refine lv_bipush (v := (30 : Int32)) hx hb d_C_isWithin_11 (by decide) ?_
    refine lv_icmp_ge (tgt := 40) hx hb d_C_isWithin_13 (by decide) (fun c_13 => absurd c_13 (nI_ge (a := i) (b := 30) (by omega) (by omega))) (fun c_13 => ?_)
    refine lv_iload_n hx hb d_C_isWithin_16 rfl (lv_at hl 3 rfl) ?_
    refine lv_iconst (v := (-1 : Int32)) hx hb d_C_isWithin_17 (by decide) ?_
    refine lv_icmp_eq (tgt := 40) hx hb d_C_isWithin_18 (by decide) (fun c_18 => ?_) (fun c_18 => ?_)
    · refine lv_iconst (v := (0 : Int32)) hx hb d_C_isWithin_40 (by decide) ?_
      exact roRet hx hb hr (by first | rfl | decide) hlk (show (0 : Int32) = k_isWithin_9 N K A outer (k + 1) i v3 from by rw [k_isWithin_9_S, if_pos c_18]) d_C_isWithin_41
    · refine lv_iload_n hx hb d_C_isWithin_21 rfl (lv_at hl 3 rfl) ?_
      refine lv_iload_n hx hb d_C_isWithin_22 rfl (lv_at hl 2 rfl) ?_
      refine lv_icmp_ne (tgt := 28) hx hb d_C_isWithin_23 (by decide) (fun c_23 => ?_) (fun c_23 => ?_)
      · refine lv_aload_n hx hb d_C_isWithin_28 rfl (lv_at hl 0 rfl) ?_
        refine lv_iload_n hx hb d_C_isWithin_29 rfl (lv_at hl 3 rfl) ?_
        refine xro (As := [.int v3]) (rest := []) Sx (ck_holderOf l D a cI cII N K A hN hKK v3) v_C_holderOf ⟨rfl, rfl, Nat.le_of_ble_eq_true rfl, Nat.le_of_ble_eq_true rfl⟩ hK hP (ci := 0) (q0 := 0) rfl rfl rfl hl.1 rfl (Nat.le_of_ble_eq_true rfl) d_C_isWithin_30 ⟨Nat.le_of_ble_eq_true rfl, Nat.le_of_ble_eq_true rfl⟩ (fun r hq => ?_)
        subst hq
        refine lv_istore_n (lv' := [(3, .int (k_holderOf N K A v3)), (0, .ref (a 0)), (1, .int x), (2, .int outer), (4, .int (nI i))]) hx hb d_C_isWithin_33 rfl hl (by decide) rfl (fun ls hl => ?_)
        refine lv_iinc (v := nI (i + 1)) (lv' := [(4, .int (nI (i + 1))), (3, .int (k_holderOf N K A v3)), (0, .ref (a 0)), (1, .int x), (2, .int outer)]) hx hb d_C_isWithin_34 hl (k := 4) rfl (nI_1 i) (by decide) rfl (fun ls hl => ?_)
        refine lv_goto (tgt := 9) hx hb d_C_isWithin_37 (by decide) ?_
        have e_b : k_isWithin_9 N K A outer (k + 1) i v3 = k_isWithin_9 N K A outer k (i + 1) (k_holderOf N K A v3) := by rw [k_isWithin_9_S, if_neg c_18, if_neg c_23]
        rw [e_b]
        exact ih (i + 1) (by omega) (k_holderOf N K A v3) ls (lv_sub hl [2, 3, 4, 1, 0] rfl)
      · refine lv_iconst (v := (1 : Int32)) hx hb d_C_isWithin_26 (by decide) ?_
        exact roRet hx hb hr (by first | rfl | decide) hlk (show (1 : Int32) = k_isWithin_9 N K A outer (k + 1) i v3 from by rw [k_isWithin_9_S, if_neg c_18, if_pos c_23]) d_C_isWithin_27
def k_isWithin (N K : Nat) (A : Nat → Nat → Int32) (x outer : Int32) : Int32 := k_isWithin_9 N K A outer 30 0 (k_holderOf N K A x)
set_option maxHeartbeats 4000000 in
set_option maxRecDepth 100000 in
theorem ck_isWithin (l : Launch) (D : va_G) (a : Nat → Nat) (cI cII : ClassId) (N K : Nat) (A : Nat → Nat → Int32) (hN : N ≤ 30) (hKK : K ≤ 10) (x outer : Int32) : Met l y_C_isWithin (Cond.code y_C_isWithin b_C_isWithin 5 (some .boolean) :: BW) ({ frames := 2, cells := 0, slots := 0, locals := 42 } : Room) (PcR D (wC a cI cII (nI N) (nI K) A) (tC cI cII) [.ref (a 0), .int x, .int outer]) (vp_Si (fun r => r = k_isWithin N K A x outer)) 0 0 (fun _ => False) := by
  refine roStart (by decide) rfl (Nat.le_of_ble_eq_true rfl) (fun p e s m below meth c Sx hr hlk hP hK ls hl => ?_)
  obtain ⟨hx, hb, hml, hown, hts⟩ := id Sx
  have hl : lv_has ls 5 [(0, .ref (a 0)), (1, .int x), (2, .int outer)] := hl
  refine lv_aload_n hx hb d_C_isWithin_0 rfl (lv_at hl 0 rfl) ?_
  refine lv_iload_n hx hb d_C_isWithin_1 rfl (lv_at hl 1 rfl) ?_
  refine xro (As := [.int x]) (rest := []) Sx (ck_holderOf l D a cI cII N K A hN hKK x) v_C_holderOf ⟨rfl, rfl, Nat.le_of_ble_eq_true rfl, Nat.le_of_ble_eq_true rfl⟩ hK hP (ci := 0) (q0 := 0) rfl rfl rfl hl.1 rfl (Nat.le_of_ble_eq_true rfl) d_C_isWithin_2 ⟨Nat.le_of_ble_eq_true rfl, Nat.le_of_ble_eq_true rfl⟩ (fun r hq => ?_)
  subst hq
  refine lv_istore_n (lv' := [(3, .int (k_holderOf N K A x)), (0, .ref (a 0)), (1, .int x), (2, .int outer)]) hx hb d_C_isWithin_5 rfl hl (by decide) rfl (fun ls hl => ?_)
  refine lv_iconst (v := (0 : Int32)) hx hb d_C_isWithin_6 (by decide) ?_
  refine lv_istore (lv' := [(4, .int (0 : Int32)), (3, .int (k_holderOf N K A x)), (0, .ref (a 0)), (1, .int x), (2, .int outer)]) hx hb d_C_isWithin_7 hl (by decide) rfl (fun ls hl => ?_)
  have e_9 : k_isWithin N K A x outer = k_isWithin_9 N K A outer 30 0 (k_holderOf N K A x) := by rw [k_isWithin]
  rw [e_9]
  exact wk_isWithin_9 l D a cI cII N K A hN hKK x outer Sx hr hlk hP hK 30 0 (by omega) (k_holderOf N K A x) ls (lv_sub hl [2, 3, 4, 1, 0] rfl)

def k_countWithin_4 (N K : Nat) (A : Nat → Nat → Int32) (x : Int32) : Nat → Nat → Int32 → Int32
  | 0, i, v2 => v2
  | k + 1, i, v2 => (if (k_isWithin N K A (nI i) x) = (0 : Int32) then k_countWithin_4 N K A x k (i + 1) v2 else k_countWithin_4 N K A x k (i + 1) (v2 + 1))
theorem k_countWithin_4_0 (N K : Nat) (A : Nat → Nat → Int32) (x : Int32) (i : Nat) (v2 : Int32) : k_countWithin_4 N K A x 0 i v2 = v2 := rfl
theorem k_countWithin_4_S (N K : Nat) (A : Nat → Nat → Int32) (x : Int32) (k i : Nat) (v2 : Int32) : k_countWithin_4 N K A x (k + 1) i v2 = (if (k_isWithin N K A (nI i) x) = (0 : Int32) then k_countWithin_4 N K A x k (i + 1) v2 else k_countWithin_4 N K A x k (i + 1) (v2 + 1)) := rfl
set_option maxHeartbeats 4000000 in
set_option maxRecDepth 100000 in
theorem wk_countWithin_4 (l : Launch) (D : va_G) (a : Nat → Nat) (cI cII : ClassId) (N K : Nat) (A : Nat → Nat → Int32) (hN : N ≤ 30) (hKK : K ≤ 10) (x : Int32) {p : Program} {e : Env} {s : State} {m : MethodId} {below : List Frame} {meth : Method} {c : Code} (Sx : CallFix p m c b_C_countWithin 4 s ([.ref (a 0), .int x] : List Value).toArray BW R_C) (hr : meth.sig.returnType = (some .int)) (hlk : meth.locks = false) (hP : va_P D classes (wC a cI cII (nI N) (nI K) A) s.heap) (hK : va_K D classes (tC cI cII) s) : ∀ (k i : Nat), i + k = N → ∀ (v2 : Int32) (ls : Array Slot), lv_has ls 4 [(0, .ref (a 0)), (1, .int x), (2, .int v2), (3, .int (nI i))] → W p l e ({ frames := 3, cells := 0, slots := 0, locals := 66 } : Room) s m ([.ref (a 0), .int x] : List Value).toArray below meth c s.heap [] 0 0 (MQ below (vp_Si (fun r => r = k_countWithin_4 N K A x k i v2)) ([.ref (a 0), .int x] : List Value).toArray s 0 0 (fun _ => False)) (F0 m 4 ls []) := by
  obtain ⟨hx, hb, hml, hown, hts⟩ := id Sx
  intro k
  induction k with
  | zero =>
    intro i hi v2 ls hl
    refine lv_iload_n hx hb d_C_countWithin_4 rfl (lv_at hl 3 rfl) ?_
    refine lv_aload_n hx hb d_C_countWithin_5 rfl (lv_at hl 0 rfl) ?_
    refine va_get (D := D) (ci := 0) (v := .int (nI N)) (C := R_C) (T := F_C) (N := 9) hx hb hts i_C hown hK hP 0 rfl rfl 0 (by decide) (hts _ fl_C_7) (fun _ h9 => h9) rfl d_C_countWithin_6 ?_
    refine lv_icmp_ge (tgt := 30) hx hb d_C_countWithin_9 (by decide) (fun c_9 => ?_) (fun c_9 => absurd (nI_le (a := N) (b := i) (by omega) (by omega)) c_9)
    refine lv_iload_n hx hb d_C_countWithin_30 rfl (lv_at hl 2 rfl) ?_
    exact roRet hx hb hr rfl hlk (show v2 = k_countWithin_4 N K A x 0 i v2 from by rw [k_countWithin_4_0]) d_C_countWithin_31
  | succ k ih =>
    intro i hi v2 ls hl
    refine lv_iload_n hx hb d_C_countWithin_4 rfl (lv_at hl 3 rfl) ?_
    refine lv_aload_n hx hb d_C_countWithin_5 rfl (lv_at hl 0 rfl) ?_
    refine va_get (D := D) (ci := 0) (v := .int (nI N)) (C := R_C) (T := F_C) (N := 9) hx hb hts i_C hown hK hP 0 rfl rfl 0 (by decide) (hts _ fl_C_7) (fun _ h9 => h9) rfl d_C_countWithin_6 ?_
    refine lv_icmp_ge (tgt := 30) hx hb d_C_countWithin_9 (by decide) (fun c_9 => absurd c_9 (nI_ge (a := i) (b := N) (by omega) (by omega))) (fun c_9 => ?_)
    refine lv_aload_n hx hb d_C_countWithin_12 rfl (lv_at hl 0 rfl) ?_
    refine lv_iload_n hx hb d_C_countWithin_13 rfl (lv_at hl 3 rfl) ?_
    refine lv_iload_n hx hb d_C_countWithin_14 rfl (lv_at hl 1 rfl) ?_
    refine xro (As := [.int (nI i), .int x]) (rest := []) Sx (ck_isWithin l D a cI cII N K A hN hKK (nI i) x) v_C_isWithin ⟨rfl, rfl, Nat.le_of_ble_eq_true rfl, Nat.le_of_ble_eq_true rfl⟩ hK hP (ci := 0) (q0 := 0) rfl rfl rfl hl.1 rfl (Nat.le_of_ble_eq_true rfl) d_C_countWithin_15 ⟨Nat.le_of_ble_eq_true rfl, Nat.le_of_ble_eq_true rfl⟩ (fun r hq => ?_)
    subst hq
    refine lv_if_eq (tgt := 24) hx hb d_C_countWithin_18 (by decide) (fun c_18 => ?_) (fun c_18 => ?_)
    · refine lv_iinc (v := nI (i + 1)) (lv' := [(3, .int (nI (i + 1))), (0, .ref (a 0)), (1, .int x), (2, .int v2)]) hx hb d_C_countWithin_24 hl (k := 3) rfl (nI_1 i) (by decide) rfl (fun ls hl => ?_)
      refine lv_goto (tgt := 4) hx hb d_C_countWithin_27 (by decide) ?_
      have e_b : k_countWithin_4 N K A x (k + 1) i v2 = k_countWithin_4 N K A x k (i + 1) v2 := by rw [k_countWithin_4_S, if_pos c_18]
      rw [e_b]
      exact ih (i + 1) (by omega) v2 ls (lv_sub hl [1, 2, 3, 0] rfl)
    · refine lv_iinc (v := v2 + 1) (lv' := [(2, .int (v2 + 1)), (0, .ref (a 0)), (1, .int x), (3, .int (nI i))]) hx hb d_C_countWithin_21 hl (k := 2) rfl (rfl) (by decide) rfl (fun ls hl => ?_)
      refine lv_iinc (v := nI (i + 1)) (lv' := [(3, .int (nI (i + 1))), (2, .int (v2 + 1)), (0, .ref (a 0)), (1, .int x)]) hx hb d_C_countWithin_24 hl (k := 3) rfl (nI_1 i) (by decide) rfl (fun ls hl => ?_)
      refine lv_goto (tgt := 4) hx hb d_C_countWithin_27 (by decide) ?_
      have e_b : k_countWithin_4 N K A x (k + 1) i v2 = k_countWithin_4 N K A x k (i + 1) (v2 + 1) := by rw [k_countWithin_4_S, if_neg c_18]
      rw [e_b]
      exact ih (i + 1) (by omega) (v2 + 1) ls (lv_sub hl [2, 3, 1, 0] rfl)
def k_countWithin (N K : Nat) (A : Nat → Nat → Int32) (x : Int32) : Int32 := k_countWithin_4 N K A x N 0 (0 : Int32)
set_option maxHeartbeats 4000000 in
set_option maxRecDepth 100000 in
theorem ck_countWithin (l : Launch) (D : va_G) (a : Nat → Nat) (cI cII : ClassId) (N K : Nat) (A : Nat → Nat → Int32) (hN : N ≤ 30) (hKK : K ≤ 10) (x : Int32) : Met l y_C_countWithin (Cond.code y_C_countWithin b_C_countWithin 4 (some .int) :: BW) ({ frames := 3, cells := 0, slots := 0, locals := 66 } : Room) (PcR D (wC a cI cII (nI N) (nI K) A) (tC cI cII) [.ref (a 0), .int x]) (vp_Si (fun r => r = k_countWithin N K A x)) 0 0 (fun _ => False) := by
  refine roStart (by decide) rfl (Nat.le_of_ble_eq_true rfl) (fun p e s m below meth c Sx hr hlk hP hK ls hl => ?_)
  obtain ⟨hx, hb, hml, hown, hts⟩ := id Sx
  have hl : lv_has ls 4 [(0, .ref (a 0)), (1, .int x)] := hl
  refine lv_iconst (v := (0 : Int32)) hx hb d_C_countWithin_0 (by decide) ?_
  refine lv_istore_n (lv' := [(2, .int (0 : Int32)), (0, .ref (a 0)), (1, .int x)]) hx hb d_C_countWithin_1 rfl hl (by decide) rfl (fun ls hl => ?_)
  refine lv_iconst (v := (0 : Int32)) hx hb d_C_countWithin_2 (by decide) ?_
  refine lv_istore_n (lv' := [(3, .int (0 : Int32)), (2, .int (0 : Int32)), (0, .ref (a 0)), (1, .int x)]) hx hb d_C_countWithin_3 rfl hl (by decide) rfl (fun ls hl => ?_)
  have e_4 : k_countWithin N K A x = k_countWithin_4 N K A x N 0 (0 : Int32) := by rw [k_countWithin]
  rw [e_4]
  exact wk_countWithin_4 l D a cI cII N K A hN hKK x Sx hr hlk hP hK N 0 (by omega) (0 : Int32) ls (lv_sub hl [2, 3, 1, 0] rfl)

def k_spaceOf_18 (N K : Nat) (A : Nat → Nat → Int32) : Nat → Nat → Int32 → Int32
  | 0, i, v2 => (-1 : Int32)
  | k + 1, i, v2 => (if v2 = (-1 : Int32) then (-1 : Int32) else (if (k_isSpace N K A v2) = (0 : Int32) then k_spaceOf_18 N K A k (i + 1) (k_holderOf N K A v2) else v2))
theorem k_spaceOf_18_0 (N K : Nat) (A : Nat → Nat → Int32) (i : Nat) (v2 : Int32) : k_spaceOf_18 N K A 0 i v2 = (-1 : Int32) := rfl
theorem k_spaceOf_18_S (N K : Nat) (A : Nat → Nat → Int32) (k i : Nat) (v2 : Int32) : k_spaceOf_18 N K A (k + 1) i v2 = (if v2 = (-1 : Int32) then (-1 : Int32) else (if (k_isSpace N K A v2) = (0 : Int32) then k_spaceOf_18 N K A k (i + 1) (k_holderOf N K A v2) else v2)) := rfl
set_option maxHeartbeats 4000000 in
set_option maxRecDepth 100000 in
theorem wk_spaceOf_18 (l : Launch) (D : va_G) (a : Nat → Nat) (cI cII : ClassId) (N K : Nat) (A : Nat → Nat → Int32) (hN : N ≤ 30) (hKK : K ≤ 10) (x : Int32) {p : Program} {e : Env} {s : State} {m : MethodId} {below : List Frame} {meth : Method} {c : Code} (Sx : CallFix p m c b_C_spaceOf 4 s ([.ref (a 0), .int x] : List Value).toArray BW R_C) (hr : meth.sig.returnType = (some .int)) (hlk : meth.locks = false) (hP : va_P D classes (wC a cI cII (nI N) (nI K) A) s.heap) (hK : va_K D classes (tC cI cII) s) : ∀ (k i : Nat), i + k = 30 → ∀ (v2 : Int32) (ls : Array Slot), lv_has ls 4 [(0, .ref (a 0)), (1, .int x), (2, .int v2), (3, .int (nI i))] → W p l e ({ frames := 3, cells := 0, slots := 0, locals := 64 } : Room) s m ([.ref (a 0), .int x] : List Value).toArray below meth c s.heap [] 0 0 (MQ below (vp_Si (fun r => r = k_spaceOf_18 N K A k i v2)) ([.ref (a 0), .int x] : List Value).toArray s 0 0 (fun _ => False)) (F0 m 18 ls []) := by
  obtain ⟨hx, hb, hml, hown, hts⟩ := id Sx
  intro k
  induction k with
  | zero =>
    intro i hi v2 ls hl
    refine lv_iload_n hx hb d_C_spaceOf_18 rfl (lv_at hl 3 rfl) ?_
    refine lv_bipush (v := (30 : Int32)) hx hb d_C_spaceOf_19 (by decide) ?_
    refine lv_icmp_ge (tgt := 51) hx hb d_C_spaceOf_21 (by decide) (fun c_21 => ?_) (fun c_21 => absurd (nI_le (a := 30) (b := i) (by omega) (by omega)) c_21)
    refine lv_iconst (v := (-1 : Int32)) hx hb d_C_spaceOf_51 (by decide) ?_
    exact roRet hx hb hr rfl hlk (show (-1 : Int32) = k_spaceOf_18 N K A 0 i v2 from by rw [k_spaceOf_18_0]) d_C_spaceOf_52
  | succ k ih =>
    intro i hi v2 ls hl
    refine lv_iload_n hx hb d_C_spaceOf_18 rfl (lv_at hl 3 rfl) ?_
    refine lv_bipush (v := (30 : Int32)) hx hb d_C_spaceOf_19 (by decide) ?_
    refine lv_icmp_ge (tgt := 51) hx hb d_C_spaceOf_21 (by decide) (fun c_21 => absurd c_21 (nI_ge (a := i) (b := 30) (by omega) (by omega))) (fun c_21 => ?_)
    refine lv_iload_n hx hb d_C_spaceOf_24 rfl (lv_at hl 2 rfl) ?_
    refine lv_iconst (v := (-1 : Int32)) hx hb d_C_spaceOf_25 (by decide) ?_
    refine lv_icmp_eq (tgt := 51) hx hb d_C_spaceOf_26 (by decide) (fun c_26 => ?_) (fun c_26 => ?_)
    · refine lv_iconst (v := (-1 : Int32)) hx hb d_C_spaceOf_51 (by decide) ?_
      exact roRet hx hb hr rfl hlk (show (-1 : Int32) = k_spaceOf_18 N K A (k + 1) i v2 from by rw [k_spaceOf_18_S, if_pos c_26]) d_C_spaceOf_52
    · refine lv_aload_n hx hb d_C_spaceOf_29 rfl (lv_at hl 0 rfl) ?_
      refine lv_iload_n hx hb d_C_spaceOf_30 rfl (lv_at hl 2 rfl) ?_
      refine xro (As := [.int v2]) (rest := []) Sx (ck_isSpace l D a cI cII N K A hN hKK v2) v_C_isSpace ⟨rfl, rfl, Nat.le_of_ble_eq_true rfl, Nat.le_of_ble_eq_true rfl⟩ hK hP (ci := 0) (q0 := 0) rfl rfl rfl hl.1 rfl (Nat.le_of_ble_eq_true rfl) d_C_spaceOf_31 ⟨Nat.le_of_ble_eq_true rfl, Nat.le_of_ble_eq_true rfl⟩ (fun r hq => ?_)
      subst hq
      refine lv_if_eq (tgt := 39) hx hb d_C_spaceOf_34 (by decide) (fun c_34 => ?_) (fun c_34 => ?_)
      · refine lv_aload_n hx hb d_C_spaceOf_39 rfl (lv_at hl 0 rfl) ?_
        refine lv_iload_n hx hb d_C_spaceOf_40 rfl (lv_at hl 2 rfl) ?_
        refine xro (As := [.int v2]) (rest := []) Sx (ck_holderOf l D a cI cII N K A hN hKK v2) v_C_holderOf ⟨rfl, rfl, Nat.le_of_ble_eq_true rfl, Nat.le_of_ble_eq_true rfl⟩ hK hP (ci := 0) (q0 := 0) rfl rfl rfl hl.1 rfl (Nat.le_of_ble_eq_true rfl) d_C_spaceOf_41 ⟨Nat.le_of_ble_eq_true rfl, Nat.le_of_ble_eq_true rfl⟩ (fun r hq => ?_)
        subst hq
        refine lv_istore_n (lv' := [(2, .int (k_holderOf N K A v2)), (0, .ref (a 0)), (1, .int x), (3, .int (nI i))]) hx hb d_C_spaceOf_44 rfl hl (by decide) rfl (fun ls hl => ?_)
        refine lv_iinc (v := nI (i + 1)) (lv' := [(3, .int (nI (i + 1))), (2, .int (k_holderOf N K A v2)), (0, .ref (a 0)), (1, .int x)]) hx hb d_C_spaceOf_45 hl (k := 3) rfl (nI_1 i) (by decide) rfl (fun ls hl => ?_)
        refine lv_goto (tgt := 18) hx hb d_C_spaceOf_48 (by decide) ?_
        have e_b : k_spaceOf_18 N K A (k + 1) i v2 = k_spaceOf_18 N K A k (i + 1) (k_holderOf N K A v2) := by rw [k_spaceOf_18_S, if_neg c_26, if_pos c_34]
        rw [e_b]
        exact ih (i + 1) (by omega) (k_holderOf N K A v2) ls (lv_sub hl [2, 3, 1, 0] rfl)
      · refine lv_iload_n hx hb d_C_spaceOf_37 rfl (lv_at hl 2 rfl) ?_
        exact roRet hx hb hr rfl hlk (show v2 = k_spaceOf_18 N K A (k + 1) i v2 from by rw [k_spaceOf_18_S, if_neg c_26, if_neg c_34]) d_C_spaceOf_38
def k_spaceOf (N K : Nat) (A : Nat → Nat → Int32) (x : Int32) : Int32 := (if (k_sortOf N K A x) = (0 : Int32) then x else k_spaceOf_18 N K A 30 0 (k_holderOf N K A x))
set_option maxHeartbeats 4000000 in
set_option maxRecDepth 100000 in
theorem ck_spaceOf (l : Launch) (D : va_G) (a : Nat → Nat) (cI cII : ClassId) (N K : Nat) (A : Nat → Nat → Int32) (hN : N ≤ 30) (hKK : K ≤ 10) (x : Int32) : Met l y_C_spaceOf (Cond.code y_C_spaceOf b_C_spaceOf 4 (some .int) :: BW) ({ frames := 3, cells := 0, slots := 0, locals := 64 } : Room) (PcR D (wC a cI cII (nI N) (nI K) A) (tC cI cII) [.ref (a 0), .int x]) (vp_Si (fun r => r = k_spaceOf N K A x)) 0 0 (fun _ => False) := by
  refine roStart (by decide) rfl (Nat.le_of_ble_eq_true rfl) (fun p e s m below meth c Sx hr hlk hP hK ls hl => ?_)
  obtain ⟨hx, hb, hml, hown, hts⟩ := id Sx
  have hl : lv_has ls 4 [(0, .ref (a 0)), (1, .int x)] := hl
  refine lv_aload_n hx hb d_C_spaceOf_0 rfl (lv_at hl 0 rfl) ?_
  refine lv_iload_n hx hb d_C_spaceOf_1 rfl (lv_at hl 1 rfl) ?_
  refine xro (As := [.int x]) (rest := []) Sx (ck_sortOf l D a cI cII N K A hN hKK x) v_C_sortOf ⟨rfl, rfl, Nat.le_of_ble_eq_true rfl, Nat.le_of_ble_eq_true rfl⟩ hK hP (ci := 0) (q0 := 0) rfl rfl rfl hl.1 rfl (Nat.le_of_ble_eq_true rfl) d_C_spaceOf_2 ⟨Nat.le_of_ble_eq_true rfl, Nat.le_of_ble_eq_true rfl⟩ (fun r hq => ?_)
  subst hq
  refine lv_if_ne (tgt := 10) hx hb d_C_spaceOf_5 (by decide) (fun c_5 => ?_) (fun c_5 => ?_)
  · refine lv_aload_n hx hb d_C_spaceOf_10 rfl (lv_at hl 0 rfl) ?_
    refine lv_iload_n hx hb d_C_spaceOf_11 rfl (lv_at hl 1 rfl) ?_
    refine xro (As := [.int x]) (rest := []) Sx (ck_holderOf l D a cI cII N K A hN hKK x) v_C_holderOf ⟨rfl, rfl, Nat.le_of_ble_eq_true rfl, Nat.le_of_ble_eq_true rfl⟩ hK hP (ci := 0) (q0 := 0) rfl rfl rfl hl.1 rfl (Nat.le_of_ble_eq_true rfl) d_C_spaceOf_12 ⟨Nat.le_of_ble_eq_true rfl, Nat.le_of_ble_eq_true rfl⟩ (fun r hq => ?_)
    subst hq
    refine lv_istore_n (lv' := [(2, .int (k_holderOf N K A x)), (0, .ref (a 0)), (1, .int x)]) hx hb d_C_spaceOf_15 rfl hl (by decide) rfl (fun ls hl => ?_)
    refine lv_iconst (v := (0 : Int32)) hx hb d_C_spaceOf_16 (by decide) ?_
    refine lv_istore_n (lv' := [(3, .int (0 : Int32)), (2, .int (k_holderOf N K A x)), (0, .ref (a 0)), (1, .int x)]) hx hb d_C_spaceOf_17 rfl hl (by decide) rfl (fun ls hl => ?_)
    have e_18 : k_spaceOf N K A x = k_spaceOf_18 N K A 30 0 (k_holderOf N K A x) := by rw [k_spaceOf, if_neg c_5]
    rw [e_18]
    exact wk_spaceOf_18 l D a cI cII N K A hN hKK x Sx hr hlk hP hK 30 0 (by omega) (k_holderOf N K A x) ls (lv_sub hl [2, 3, 1, 0] rfl)
  · refine lv_iload_n hx hb d_C_spaceOf_8 rfl (lv_at hl 1 rfl) ?_
    exact roRet hx hb hr rfl hlk (show x = k_spaceOf N K A x from by rw [k_spaceOf, if_pos c_5]) d_C_spaceOf_9
theorem spaceOf_18_T {N K : Nat} {A : Nat → Nat → Int32} : ∀ (k i : Nat) (v : Int32), ¬ k_spaceOf_18 N K A k i v = (-1 : Int32) → ¬ k_isSpace N K A (k_spaceOf_18 N K A k i v) = (0 : Int32) := by
  intro k
  induction k with
  | zero => intro i v h; exact absurd rfl h
  | succ k ih =>
    intro i v h
    rw [k_spaceOf_18_S] at h ⊢
    by_cases c1 : v = (-1 : Int32)
    · rw [if_pos c1] at h; exact absurd rfl h
    · rw [if_neg c1] at h ⊢
      by_cases c2 : k_isSpace N K A v = (0 : Int32)
      · rw [if_pos c2] at h ⊢; exact ih (i + 1) _ h
      · rw [if_neg c2]; exact c2
theorem spaceOf_S {N K : Nat} {A : Nat → Nat → Int32} {x : Int32} (h : ¬ k_spaceOf N K A x = (-1 : Int32)) : ¬ k_isSpace N K A (k_spaceOf N K A x) = (0 : Int32) := by
  rw [k_spaceOf] at h ⊢
  by_cases c : k_sortOf N K A x = (0 : Int32)
  · rw [if_pos c, k_isSpace, if_pos c]; decide
  · rw [if_neg c] at h ⊢; exact spaceOf_18_T _ _ _ h
theorem in_spaceOf {N K : Nat} {A : Nat → Nat → Int32} {x : Int32} (hN : N ≤ 30) (h : ¬ k_spaceOf N K A x = (-1 : Int32)) : vp_in (k_spaceOf N K A x) 30 := in_isSpace hN (spaceOf_S h)
