def m_findWay_90 (N : Nat) (K : Nat) (B : Nat → Nat → Int32) (u3 : Int32) : Nat → (Nat → Nat → Int32) → Int32 → Int32 × (Nat → Nat → Int32)
  | 0, Q1, v4 => ((0 : Int32), Q1)
  | k + 1, Q1, v4 => (if v4 = u3 then ((1 : Int32), Q1) else m_findWay_90 N K B u3 k (sU (sU Q1 1 (Q1 5 1).toNatClampNeg v4) 5 1 (((sU Q1 1 (Q1 5 1).toNatClampNeg v4) 5 1) + (1 : Int32))) (B 1 v4.toNatClampNeg))
theorem m_findWay_90_0 (N : Nat) (K : Nat) (B : Nat → Nat → Int32) (u3 : Int32) (Q1 : (Nat → Nat → Int32)) (v4 : Int32) : m_findWay_90 N K B u3 0 Q1 v4 = ((0 : Int32), Q1) := rfl
theorem m_findWay_90_S (N : Nat) (K : Nat) (B : Nat → Nat → Int32) (u3 : Int32) (k : Nat) (Q1 : (Nat → Nat → Int32)) (v4 : Int32) : m_findWay_90 N K B u3 (k + 1) Q1 v4 = (if v4 = u3 then ((1 : Int32), Q1) else m_findWay_90 N K B u3 k (sU (sU Q1 1 (Q1 5 1).toNatClampNeg v4) 5 1 (((sU Q1 1 (Q1 5 1).toNatClampNeg v4) 5 1) + (1 : Int32))) (B 1 v4.toNatClampNeg)) := rfl
set_option maxHeartbeats 4000000 in
set_option maxRecDepth 100000 in
theorem wm_findWay_90 (l : Launch) (D : va_G) (a : Nat → Nat) (cI cZ : ClassId) (N K : Nat) (B Q : Nat → Nat → Int32) (hN : N ≤ 30) (hKK : K ≤ 10) (hC : chs N B) (hDr : drM N K B) (Z : Nat → Prop) (who : Int32) (x : Int32) (u3 : Int32) (hw : ∃ j : Nat, j < N ∧ who = nI j) (h_x : ∃ j : Nat, j < N ∧ x = nI j) {p : Program} {e : Env} {s : State} {m : MethodId} {below : List Frame} {meth : Method} {c : Code} (Sx : CallFix p m c b_M_findWay 5 s ([.ref (a 0), .int who, .int x] : List Value).toArray BW R_M) (hr : meth.sig.returnType = (some .boolean)) (hlk : meth.locks = false) (hD : va_D Z (wM a cI cZ (nI N) (nI K) B Q)) (hK : va_K D classes (tM cI cZ) s) : ∀ (k : Nat), ∀ (Q1 : (Nat → Nat → Int32)) (v4 : Int32) (H : Heap) (locs : List Loc) (ls : Array Slot), (hit N (B 1) k v4 u3 ∧ fwI Q1 k) → va_P D classes (wM a cI cZ (nI N) (nI K) B Q1) H → va_S Z s.heap H locs → lv_has ls 5 [(0, .ref (a 0)), (1, .int who), (2, .int x), (3, .int u3), (4, .int v4)] → W p l e ({ frames := 1, cells := 0, slots := 0, locals := 23 } : Room) s m ([.ref (a 0), .int who, .int x] : List Value).toArray below meth c H locs 0 0 (MQ below (va_Qi (fun r u => r = (m_findWay_90 N K B u3 k Q1 v4).1 ∧ u = (m_findWay_90 N K B u3 k Q1 v4).2) (atW D (fun u => wM a cI cZ (nI N) (nI K) B u) (tM cI cZ)) Z) ([.ref (a 0), .int who, .int x] : List Value).toArray s 0 0 Z) (F0 m 90 ls []) := by
  obtain ⟨hx, hb, hml, hown, hts⟩ := id Sx
  intro k
  induction k with
  | zero =>
    intro Q1 v4 H locs ls hv hP hS hl
    exact absurd hv (fun h => hit_0 h.1)
  | succ k ih =>
    intro Q1 v4 H locs ls hv hP hS hl
    refine lv_iload hx hb d_M_findWay_90 (lv_at hl 4 rfl) ?_
    refine lv_iload_n hx hb d_M_findWay_92 rfl (lv_at hl 3 rfl) ?_
    refine lv_icmp_eq (tgt := 129) hx hb d_M_findWay_93 (by decide) (fun c_93 => ?_) (fun c_93 => ?_)
    · refine lv_iconst (v := (1 : Int32)) hx hb d_M_findWay_129 (by decide) ?_
      exact wRet (u := Q1) hx hb hr (by first | rfl | decide) hlk (show (1 : Int32) = (m_findWay_90 N K B u3 (k + 1) Q1 v4).1 ∧ Q1 = (m_findWay_90 N K B u3 (k + 1) Q1 v4).2 from by rw [m_findWay_90_S, if_pos c_93]; exact ⟨rfl, rfl⟩) hP hK hS d_M_findWay_130
    · refine lv_aload_n hx hb d_M_findWay_96 rfl (lv_at hl 0 rfl) ?_
      refine va_get (D := D) (ci := 1) (v := .ref (a 9)) (C := R_M) (T := F_M) (N := 16) hx hb hts i_M hown hK hP 0 rfl rfl 12 (by decide) (hts _ fl_M_34) (fun _ h9 => h9) rfl d_M_findWay_97 ?_
      refine lv_aload_n hx hb d_M_findWay_100 rfl (lv_at hl 0 rfl) ?_
      refine va_get (D := D) (ci := 1) (v := .int (Q1 5 1)) (C := R_M) (T := F_M) (N := 16) hx hb hts i_M hown hK hP 0 rfl rfl 10 (by decide) (hts _ fl_M_82) (fun _ h9 => h9) rfl d_M_findWay_101 ?_
      refine lv_iload hx hb d_M_findWay_104 (lv_at hl 4 rfl) ?_
      refine va_iast (n := 30) hx hb hK hP (wM_D hD) hS 9 0 rfl rfl (fi_in hv.1 hv.2 c_93) d_M_findWay_106 (fun H locs hP _ hS => ?_)
      have hP : va_P D classes (wM a cI cZ (nI N) (nI K) B (sU Q1 1 (Q1 5 1).toNatClampNeg v4)) H := by have h9 := hP; rw [wM_s9] at h9; exact h9
      refine lv_aload_n hx hb d_M_findWay_107 rfl (lv_at hl 0 rfl) ?_
      refine lv_dup hx hb d_M_findWay_108 rfl ?_
      refine va_get (D := D) (ci := 1) (v := .int ((sU Q1 1 (Q1 5 1).toNatClampNeg v4) 5 1)) (C := R_M) (T := F_M) (N := 16) hx hb hts i_M hown hK hP 0 rfl rfl 10 (by decide) (hts _ fl_M_82) (fun _ h9 => h9) rfl d_M_findWay_109 ?_
      refine lv_iconst (v := (1 : Int32)) hx hb d_M_findWay_112 (by decide) ?_
      refine lv_iadd hx hb d_M_findWay_113 ?_
      refine va_put (D := D) (ci := 1) (v := .int (((sU Q1 1 (Q1 5 1).toNatClampNeg v4) 5 1) + (1 : Int32))) (ty := .int) (C := R_M) (T := F_M) (N := 16) hx hb hts i_M t_M t_M_ok n_M hown hK hP (wM_D hD) hS 0 rfl rfl 10 (by decide) (hts _ fl_M_82) (fun _ h9 => h9) rfl (by decide +kernel) rfl rfl (Nat.le_of_ble_eq_true rfl) d_M_findWay_114 (fun H locs hP _ hS => ?_)
      have hP : va_P D classes (wM a cI cZ (nI N) (nI K) B (sU (sU Q1 1 (Q1 5 1).toNatClampNeg v4) 5 1 (((sU Q1 1 (Q1 5 1).toNatClampNeg v4) 5 1) + (1 : Int32)))) H := hP
      refine lv_aload_n hx hb d_M_findWay_117 rfl (lv_at hl 0 rfl) ?_
      refine va_get (D := D) (ci := 1) (v := .ref (a 2)) (C := R_M) (T := F_M) (N := 16) hx hb hts i_M hown hK hP 0 rfl rfl 2 (by decide) (hts _ fl_M_13) (fun _ h9 => h9) rfl d_M_findWay_118 ?_
      refine lv_iload hx hb d_M_findWay_121 (lv_at hl 4 rfl) ?_
      refine va_iald (n := 30) hx hb hK hP 2 0 rfl rfl (th_in hN (hit_j hv.1 c_93)) d_M_findWay_123 ?_
      refine lv_istore (lv' := [(4, .int (B 1 v4.toNatClampNeg)), (0, .ref (a 0)), (1, .int who), (2, .int x), (3, .int u3)]) hx hb d_M_findWay_124 hl (by decide) rfl (fun ls hl => ?_)
      refine lv_goto (tgt := 90) hx hb d_M_findWay_126 (by decide) ?_
      have e_b : m_findWay_90 N K B u3 (k + 1) Q1 v4 = m_findWay_90 N K B u3 k (sU (sU Q1 1 (Q1 5 1).toNatClampNeg v4) 5 1 (((sU Q1 1 (Q1 5 1).toNatClampNeg v4) 5 1) + (1 : Int32))) (B 1 v4.toNatClampNeg) := by rw [m_findWay_90_S, if_neg c_93]
      rw [e_b]
      exact ih (sU (sU Q1 1 (Q1 5 1).toNatClampNeg v4) 5 1 (((sU Q1 1 (Q1 5 1).toNatClampNeg v4) 5 1) + (1 : Int32))) (B 1 v4.toNatClampNeg) _ _ ls (⟨hit_next hN hv.1 c_93, fwI_up hv.2 rfl⟩) hP hS (lv_sub hl [1, 2, 3, 4, 0] rfl)
def m_findWay_12 (N : Nat) (K : Nat) (B : Nat → Nat → Int32) (who : Int32) (x : Int32) : Nat → (Nat → Nat → Int32) → Int32 → Int32 × (Nat → Nat → Int32)
  | 0, Q1, v3 => ((0 : Int32), Q1)
  | k + 1, Q1, v3 => (if v3 = (-1 : Int32) then ((0 : Int32), Q1) else (if v3 = x then m_findWay_90 N K B v3 31 Q1 v3 else (if (m_isWithin N K B Q1 x v3) = (0 : Int32) then (if v3 = who then m_findWay_12 N K B who x k Q1 (B 1 v3.toNatClampNeg) else m_findWay_12 N K B who x k (sU (sU Q1 0 (Q1 5 0).toNatClampNeg v3) 5 0 (((sU Q1 0 (Q1 5 0).toNatClampNeg v3) 5 0) + (1 : Int32))) (B 1 v3.toNatClampNeg)) else m_findWay_90 N K B v3 31 Q1 (B 1 x.toNatClampNeg))))
theorem m_findWay_12_0 (N : Nat) (K : Nat) (B : Nat → Nat → Int32) (who : Int32) (x : Int32) (Q1 : (Nat → Nat → Int32)) (v3 : Int32) : m_findWay_12 N K B who x 0 Q1 v3 = ((0 : Int32), Q1) := rfl
theorem m_findWay_12_S (N : Nat) (K : Nat) (B : Nat → Nat → Int32) (who : Int32) (x : Int32) (k : Nat) (Q1 : (Nat → Nat → Int32)) (v3 : Int32) : m_findWay_12 N K B who x (k + 1) Q1 v3 = (if v3 = (-1 : Int32) then ((0 : Int32), Q1) else (if v3 = x then m_findWay_90 N K B v3 31 Q1 v3 else (if (m_isWithin N K B Q1 x v3) = (0 : Int32) then (if v3 = who then m_findWay_12 N K B who x k Q1 (B 1 v3.toNatClampNeg) else m_findWay_12 N K B who x k (sU (sU Q1 0 (Q1 5 0).toNatClampNeg v3) 5 0 (((sU Q1 0 (Q1 5 0).toNatClampNeg v3) 5 0) + (1 : Int32))) (B 1 v3.toNatClampNeg)) else m_findWay_90 N K B v3 31 Q1 (B 1 x.toNatClampNeg)))) := rfl
set_option maxHeartbeats 4000000 in
set_option maxRecDepth 100000 in
theorem wm_findWay_12 (l : Launch) (D : va_G) (a : Nat → Nat) (cI cZ : ClassId) (N K : Nat) (B Q : Nat → Nat → Int32) (hN : N ≤ 30) (hKK : K ≤ 10) (hC : chs N B) (hDr : drM N K B) (Z : Nat → Prop) (who : Int32) (x : Int32) (hw : ∃ j : Nat, j < N ∧ who = nI j) (h_x : ∃ j : Nat, j < N ∧ x = nI j) {p : Program} {e : Env} {s : State} {m : MethodId} {below : List Frame} {meth : Method} {c : Code} (Sx : CallFix p m c b_M_findWay 5 s ([.ref (a 0), .int who, .int x] : List Value).toArray BW R_M) (hr : meth.sig.returnType = (some .boolean)) (hlk : meth.locks = false) (hD : va_D Z (wM a cI cZ (nI N) (nI K) B Q)) (hK : va_K D classes (tM cI cZ) s) : ∀ (k : Nat), ∀ (Q1 : (Nat → Nat → Int32)) (v3 : Int32) (H : Heap) (locs : List Loc) (ls : Array Slot), (chp N (B 1) k v3 ∧ fwO Q1 k ∧ Q1 5 1 = (0 : Int32)) → va_P D classes (wM a cI cZ (nI N) (nI K) B Q1) H → va_S Z s.heap H locs → lv_has ls 5 [(0, .ref (a 0)), (1, .int who), (2, .int x), (3, .int v3)] → W p l e ({ frames := 1, cells := 0, slots := 0, locals := 23 } : Room) s m ([.ref (a 0), .int who, .int x] : List Value).toArray below meth c H locs 0 0 (MQ below (va_Qi (fun r u => r = (m_findWay_12 N K B who x k Q1 v3).1 ∧ u = (m_findWay_12 N K B who x k Q1 v3).2) (atW D (fun u => wM a cI cZ (nI N) (nI K) B u) (tM cI cZ)) Z) ([.ref (a 0), .int who, .int x] : List Value).toArray s 0 0 Z) (F0 m 12 ls []) := by
  obtain ⟨hx, hb, hml, hown, hts⟩ := id Sx
  intro k
  induction k with
  | zero =>
    intro Q1 v3 H locs ls hv hP hS hl
    exact absurd hv (fun h => chp_0 h.1)
  | succ k ih =>
    intro Q1 v3 H locs ls hv hP hS hl
    refine lv_iload_n hx hb d_M_findWay_12 rfl (lv_at hl 3 rfl) ?_
    refine lv_iconst (v := (-1 : Int32)) hx hb d_M_findWay_13 (by decide) ?_
    refine lv_icmp_eq (tgt := 66) hx hb d_M_findWay_14 (by decide) (fun c_14 => ?_) (fun c_14 => ?_)
    · refine lv_iload_n hx hb d_M_findWay_66 rfl (lv_at hl 3 rfl) ?_
      refine lv_iconst (v := (-1 : Int32)) hx hb d_M_findWay_67 (by decide) ?_
      refine lv_icmp_ne (tgt := 73) hx hb d_M_findWay_68 (by decide) (fun c_68 => absurd c_14 c_68) (fun c_68 => ?_)
      refine lv_iconst (v := (0 : Int32)) hx hb d_M_findWay_71 (by decide) ?_
      exact wRet (u := Q1) hx hb hr (by first | rfl | decide) hlk (show (0 : Int32) = (m_findWay_12 N K B who x (k + 1) Q1 v3).1 ∧ Q1 = (m_findWay_12 N K B who x (k + 1) Q1 v3).2 from by rw [m_findWay_12_S, if_pos c_14]; exact ⟨rfl, rfl⟩) hP hK hS d_M_findWay_72
    · refine lv_iload_n hx hb d_M_findWay_17 rfl (lv_at hl 3 rfl) ?_
      refine lv_iload_n hx hb d_M_findWay_18 rfl (lv_at hl 2 rfl) ?_
      refine lv_icmp_eq (tgt := 66) hx hb d_M_findWay_19 (by decide) (fun c_19 => ?_) (fun c_19 => ?_)
      · refine lv_iload_n hx hb d_M_findWay_66 rfl (lv_at hl 3 rfl) ?_
        refine lv_iconst (v := (-1 : Int32)) hx hb d_M_findWay_67 (by decide) ?_
        refine lv_icmp_ne (tgt := 73) hx hb d_M_findWay_68 (by decide) (fun c_68 => ?_) (fun c_68 => absurd c_68 c_14)
        refine lv_iload_n hx hb d_M_findWay_73 rfl (lv_at hl 3 rfl) ?_
        refine lv_iload_n hx hb d_M_findWay_74 rfl (lv_at hl 2 rfl) ?_
        refine lv_icmp_ne (tgt := 82) hx hb d_M_findWay_75 (by decide) (fun c_75 => absurd c_19 c_75) (fun c_75 => ?_)
        refine lv_iload_n hx hb d_M_findWay_78 rfl (lv_at hl 3 rfl) ?_
        refine lv_goto (tgt := 88) hx hb d_M_findWay_79 (by decide) ?_
        refine lv_istore (lv' := [(4, .int v3), (0, .ref (a 0)), (1, .int who), (2, .int x), (3, .int v3)]) hx hb d_M_findWay_88 hl (by decide) rfl (fun ls hl => ?_)
        have e_90 : m_findWay_12 N K B who x (k + 1) Q1 v3 = m_findWay_90 N K B v3 31 Q1 v3 := by rw [m_findWay_12_S, if_neg c_14, if_pos c_19]
        rw [e_90]
        exact wm_findWay_90 l D a cI cZ N K B Q hN hKK hC hDr Z who x v3 hw h_x Sx hr hlk (wM_D hD) hK 31 Q1 v3 _ _ ls (by first | exact ⟨hit_rf, fwI_0 hv.2.2⟩ | exact ⟨hit_of hN hC h_x c_28, fwI_0 hv.2.2⟩) hP hS (lv_sub hl [1, 2, 3, 4, 0] rfl)
      · refine lv_aload_n hx hb d_M_findWay_22 rfl (lv_at hl 0 rfl) ?_
        refine lv_iload_n hx hb d_M_findWay_23 rfl (lv_at hl 2 rfl) ?_
        refine lv_iload_n hx hb d_M_findWay_24 rfl (lv_at hl 3 rfl) ?_
        refine xro (As := [.int x, .int v3]) (rest := []) Sx (cm_isWithin l D a cI cZ N K B Q1 hN hKK hC hDr x v3 (h_x)) v_M_isWithin ⟨rfl, rfl, Nat.le_of_ble_eq_true rfl, Nat.le_of_ble_eq_true rfl⟩ hK hP (ci := 1) (q0 := 0) rfl rfl rfl hl.1 rfl (Nat.le_of_ble_eq_true rfl) d_M_findWay_25 ⟨Nat.le_of_ble_eq_true rfl, Nat.le_of_ble_eq_true rfl⟩ (fun r hq => ?_)
        subst hq
        refine lv_if_ne (tgt := 66) hx hb d_M_findWay_28 (by decide) (fun c_28 => ?_) (fun c_28 => ?_)
        · refine lv_iload_n hx hb d_M_findWay_66 rfl (lv_at hl 3 rfl) ?_
          refine lv_iconst (v := (-1 : Int32)) hx hb d_M_findWay_67 (by decide) ?_
          refine lv_icmp_ne (tgt := 73) hx hb d_M_findWay_68 (by decide) (fun c_68 => ?_) (fun c_68 => absurd c_68 c_14)
          refine lv_iload_n hx hb d_M_findWay_73 rfl (lv_at hl 3 rfl) ?_
          refine lv_iload_n hx hb d_M_findWay_74 rfl (lv_at hl 2 rfl) ?_
          refine lv_icmp_ne (tgt := 82) hx hb d_M_findWay_75 (by decide) (fun c_75 => ?_) (fun c_75 => absurd c_75 c_19)
          refine lv_aload_n hx hb d_M_findWay_82 rfl (lv_at hl 0 rfl) ?_
          refine va_get (D := D) (ci := 1) (v := .ref (a 2)) (C := R_M) (T := F_M) (N := 16) hx hb hts i_M hown hK hP 0 rfl rfl 2 (by decide) (hts _ fl_M_13) (fun _ h9 => h9) rfl d_M_findWay_83 ?_
          refine lv_iload_n hx hb d_M_findWay_86 rfl (lv_at hl 2 rfl) ?_
          refine va_iald (n := 30) hx hb hK hP 2 0 rfl rfl (th_in hN (h_x)) d_M_findWay_87 ?_
          refine lv_istore (lv' := [(4, .int (B 1 x.toNatClampNeg)), (0, .ref (a 0)), (1, .int who), (2, .int x), (3, .int v3)]) hx hb d_M_findWay_88 hl (by decide) rfl (fun ls hl => ?_)
          have e_90 : m_findWay_12 N K B who x (k + 1) Q1 v3 = m_findWay_90 N K B v3 31 Q1 (B 1 x.toNatClampNeg) := by rw [m_findWay_12_S, if_neg c_14, if_neg c_19, if_neg c_28]
          rw [e_90]
          exact wm_findWay_90 l D a cI cZ N K B Q hN hKK hC hDr Z who x v3 hw h_x Sx hr hlk (wM_D hD) hK 31 Q1 (B 1 x.toNatClampNeg) _ _ ls (by first | exact ⟨hit_rf, fwI_0 hv.2.2⟩ | exact ⟨hit_of hN hC h_x c_28, fwI_0 hv.2.2⟩) hP hS (lv_sub hl [1, 2, 3, 4, 0] rfl)
        · refine lv_iload_n hx hb d_M_findWay_31 rfl (lv_at hl 3 rfl) ?_
          refine lv_iload_n hx hb d_M_findWay_32 rfl (lv_at hl 1 rfl) ?_
          refine lv_icmp_eq (tgt := 56) hx hb d_M_findWay_33 (by decide) (fun c_33 => ?_) (fun c_33 => ?_)
          · refine lv_aload_n hx hb d_M_findWay_56 rfl (lv_at hl 0 rfl) ?_
            refine va_get (D := D) (ci := 1) (v := .ref (a 2)) (C := R_M) (T := F_M) (N := 16) hx hb hts i_M hown hK hP 0 rfl rfl 2 (by decide) (hts _ fl_M_13) (fun _ h9 => h9) rfl d_M_findWay_57 ?_
            refine lv_iload_n hx hb d_M_findWay_60 rfl (lv_at hl 3 rfl) ?_
            refine va_iald (n := 30) hx hb hK hP 2 0 rfl rfl (th_in hN (chp_j hv.1 c_14)) d_M_findWay_61 ?_
            refine lv_istore_n (lv' := [(3, .int (B 1 v3.toNatClampNeg)), (0, .ref (a 0)), (1, .int who), (2, .int x)]) hx hb d_M_findWay_62 rfl hl (by decide) rfl (fun ls hl => ?_)
            refine lv_goto (tgt := 12) hx hb d_M_findWay_63 (by decide) ?_
            have e_b : m_findWay_12 N K B who x (k + 1) Q1 v3 = m_findWay_12 N K B who x k Q1 (B 1 v3.toNatClampNeg) := by rw [m_findWay_12_S, if_neg c_14, if_neg c_19, if_pos c_28, if_pos c_33]
            rw [e_b]
            exact ih Q1 (B 1 v3.toNatClampNeg) _ _ ls (by first | exact ⟨chp_next hN hv.1 c_14, fwO_keep hv.2.1, hv.2.2⟩ | exact ⟨chp_next hN hv.1 c_14, fwO_up hv.2.1 rfl, hv.2.2⟩) hP hS (lv_sub hl [1, 2, 3, 0] rfl)
          · refine lv_aload_n hx hb d_M_findWay_36 rfl (lv_at hl 0 rfl) ?_
            refine va_get (D := D) (ci := 1) (v := .ref (a 8)) (C := R_M) (T := F_M) (N := 16) hx hb hts i_M hown hK hP 0 rfl rfl 11 (by decide) (hts _ fl_M_31) (fun _ h9 => h9) rfl d_M_findWay_37 ?_
            refine lv_aload_n hx hb d_M_findWay_40 rfl (lv_at hl 0 rfl) ?_
            refine va_get (D := D) (ci := 1) (v := .int (Q1 5 0)) (C := R_M) (T := F_M) (N := 16) hx hb hts i_M hown hK hP 0 rfl rfl 9 (by decide) (hts _ fl_M_79) (fun _ h9 => h9) rfl d_M_findWay_41 ?_
            refine lv_iload_n hx hb d_M_findWay_44 rfl (lv_at hl 3 rfl) ?_
            refine va_iast (n := 30) hx hb hK hP (wM_D hD) hS 8 0 rfl rfl (fw_in hv.1 hv.2.1 c_14) d_M_findWay_45 (fun H locs hP _ hS => ?_)
            have hP : va_P D classes (wM a cI cZ (nI N) (nI K) B (sU Q1 0 (Q1 5 0).toNatClampNeg v3)) H := by have h9 := hP; rw [wM_s8] at h9; exact h9
            refine lv_aload_n hx hb d_M_findWay_46 rfl (lv_at hl 0 rfl) ?_
            refine lv_dup hx hb d_M_findWay_47 rfl ?_
            refine va_get (D := D) (ci := 1) (v := .int ((sU Q1 0 (Q1 5 0).toNatClampNeg v3) 5 0)) (C := R_M) (T := F_M) (N := 16) hx hb hts i_M hown hK hP 0 rfl rfl 9 (by decide) (hts _ fl_M_79) (fun _ h9 => h9) rfl d_M_findWay_48 ?_
            refine lv_iconst (v := (1 : Int32)) hx hb d_M_findWay_51 (by decide) ?_
            refine lv_iadd hx hb d_M_findWay_52 ?_
            refine va_put (D := D) (ci := 1) (v := .int (((sU Q1 0 (Q1 5 0).toNatClampNeg v3) 5 0) + (1 : Int32))) (ty := .int) (C := R_M) (T := F_M) (N := 16) hx hb hts i_M t_M t_M_ok n_M hown hK hP (wM_D hD) hS 0 rfl rfl 9 (by decide) (hts _ fl_M_79) (fun _ h9 => h9) rfl (by decide +kernel) rfl rfl (Nat.le_of_ble_eq_true rfl) d_M_findWay_53 (fun H locs hP _ hS => ?_)
            have hP : va_P D classes (wM a cI cZ (nI N) (nI K) B (sU (sU Q1 0 (Q1 5 0).toNatClampNeg v3) 5 0 (((sU Q1 0 (Q1 5 0).toNatClampNeg v3) 5 0) + (1 : Int32)))) H := hP
            refine lv_aload_n hx hb d_M_findWay_56 rfl (lv_at hl 0 rfl) ?_
            refine va_get (D := D) (ci := 1) (v := .ref (a 2)) (C := R_M) (T := F_M) (N := 16) hx hb hts i_M hown hK hP 0 rfl rfl 2 (by decide) (hts _ fl_M_13) (fun _ h9 => h9) rfl d_M_findWay_57 ?_
            refine lv_iload_n hx hb d_M_findWay_60 rfl (lv_at hl 3 rfl) ?_
            refine va_iald (n := 30) hx hb hK hP 2 0 rfl rfl (th_in hN (chp_j hv.1 c_14)) d_M_findWay_61 ?_
            refine lv_istore_n (lv' := [(3, .int (B 1 v3.toNatClampNeg)), (0, .ref (a 0)), (1, .int who), (2, .int x)]) hx hb d_M_findWay_62 rfl hl (by decide) rfl (fun ls hl => ?_)
            refine lv_goto (tgt := 12) hx hb d_M_findWay_63 (by decide) ?_
            have e_b : m_findWay_12 N K B who x (k + 1) Q1 v3 = m_findWay_12 N K B who x k (sU (sU Q1 0 (Q1 5 0).toNatClampNeg v3) 5 0 (((sU Q1 0 (Q1 5 0).toNatClampNeg v3) 5 0) + (1 : Int32))) (B 1 v3.toNatClampNeg) := by rw [m_findWay_12_S, if_neg c_14, if_neg c_19, if_pos c_28, if_neg c_33]
            rw [e_b]
            exact ih (sU (sU Q1 0 (Q1 5 0).toNatClampNeg v3) 5 0 (((sU Q1 0 (Q1 5 0).toNatClampNeg v3) 5 0) + (1 : Int32))) (B 1 v3.toNatClampNeg) _ _ ls (by first | exact ⟨chp_next hN hv.1 c_14, fwO_keep hv.2.1, hv.2.2⟩ | exact ⟨chp_next hN hv.1 c_14, fwO_up hv.2.1 rfl, hv.2.2⟩) hP hS (lv_sub hl [1, 2, 3, 0] rfl)
def m_findWay (N : Nat) (K : Nat) (B : Nat → Nat → Int32) (Q : Nat → Nat → Int32) (who x : Int32) : Int32 × (Nat → Nat → Int32) := m_findWay_12 N K B who x 31 (sU (sU Q 5 0 (0 : Int32)) 5 1 (0 : Int32)) who
set_option maxHeartbeats 4000000 in
set_option maxRecDepth 100000 in
theorem cm_findWay (l : Launch) (D : va_G) (a : Nat → Nat) (cI cZ : ClassId) (N K : Nat) (B Q : Nat → Nat → Int32) (hN : N ≤ 30) (hKK : K ≤ 10) (hC : chs N B) (hDr : drM N K B) (Z : Nat → Prop) (who x : Int32) (hw : ∃ j : Nat, j < N ∧ who = nI j) (h_x : ∃ j : Nat, j < N ∧ x = nI j) : Met l y_M_findWay (Cond.code y_M_findWay b_M_findWay 5 (some .boolean) :: BW) ({ frames := 1, cells := 0, slots := 0, locals := 23 } : Room) (PcW D Z (wM a cI cZ (nI N) (nI K) B Q) (tM cI cZ) [.ref (a 0), .int who, .int x]) (va_Qi (fun r u => r = (m_findWay N K B Q who x).1 ∧ u = (m_findWay N K B Q who x).2) (atW D (fun u => wM a cI cZ (nI N) (nI K) B u) (tM cI cZ)) Z) 0 0 Z := by
  refine wStart (by decide) rfl (Nat.le_of_ble_eq_true rfl) (fun p e s m below meth c Sx hr hlk hP hK hD hS ls hl => ?_)
  obtain ⟨hx, hb, hml, hown, hts⟩ := id Sx
  have hl : lv_has ls 5 [(0, .ref (a 0)), (1, .int who), (2, .int x)] := hl
  refine lv_aload_n hx hb d_M_findWay_0 rfl (lv_at hl 0 rfl) ?_
  refine lv_iconst (v := (0 : Int32)) hx hb d_M_findWay_1 (by decide) ?_
  refine va_put (D := D) (ci := 1) (v := .int (0 : Int32)) (ty := .int) (C := R_M) (T := F_M) (N := 16) hx hb hts i_M t_M t_M_ok n_M hown hK hP (wM_D hD) hS 0 rfl rfl 9 (by decide) (hts _ fl_M_79) (fun _ h9 => h9) rfl (by decide +kernel) rfl rfl (Nat.le_of_ble_eq_true rfl) d_M_findWay_2 (fun H locs hP _ hS => ?_)
  have hP : va_P D classes (wM a cI cZ (nI N) (nI K) B (sU Q 5 0 (0 : Int32))) H := hP
  refine lv_aload_n hx hb d_M_findWay_5 rfl (lv_at hl 0 rfl) ?_
  refine lv_iconst (v := (0 : Int32)) hx hb d_M_findWay_6 (by decide) ?_
  refine va_put (D := D) (ci := 1) (v := .int (0 : Int32)) (ty := .int) (C := R_M) (T := F_M) (N := 16) hx hb hts i_M t_M t_M_ok n_M hown hK hP (wM_D hD) hS 0 rfl rfl 10 (by decide) (hts _ fl_M_82) (fun _ h9 => h9) rfl (by decide +kernel) rfl rfl (Nat.le_of_ble_eq_true rfl) d_M_findWay_7 (fun H locs hP _ hS => ?_)
  have hP : va_P D classes (wM a cI cZ (nI N) (nI K) B (sU (sU Q 5 0 (0 : Int32)) 5 1 (0 : Int32))) H := hP
  refine lv_iload_n hx hb d_M_findWay_10 rfl (lv_at hl 1 rfl) ?_
  refine lv_istore_n (lv' := [(3, .int who), (0, .ref (a 0)), (1, .int who), (2, .int x)]) hx hb d_M_findWay_11 rfl hl (by decide) rfl (fun ls hl => ?_)
  have e_12 : m_findWay N K B Q who x = m_findWay_12 N K B who x 31 (sU (sU Q 5 0 (0 : Int32)) 5 1 (0 : Int32)) who := by rw [m_findWay]
  rw [e_12]
  exact wm_findWay_12 l D a cI cZ N K B Q hN hKK hC hDr Z who x hw h_x Sx hr hlk (wM_D hD) hK 31 (sU (sU Q 5 0 (0 : Int32)) 5 1 (0 : Int32)) who _ _ ls (⟨chp_th hC hw, fwO_0 rfl, rfl⟩) hP hS (lv_sub hl [1, 2, 3, 0] rfl)
def wO (N : Nat) (Q : Nat → Nat → Int32) : Prop := ∃ o : Nat, Q 5 0 = nI o ∧ o ≤ 30 ∧ ∀ i : Nat, i < o → ∃ j : Nat, j < N ∧ Q 0 i = nI j
def wI (N : Nat) (Q : Nat → Nat → Int32) : Prop := ∃ o : Nat, Q 5 1 = nI o ∧ o ≤ 30 ∧ ∀ i : Nat, i < o → ∃ j : Nat, j < N ∧ Q 1 i = nI j
theorem findWay_90_ok {N K : Nat} {B : Nat → Nat → Int32} {u : Int32} (hN : N ≤ 30) : ∀ (k : Nat) (Q : Nat → Nat → Int32) (v : Int32), hit N (B 1) k v u → fwI Q k → wO N Q → wI N Q → wO N (m_findWay_90 N K B u k Q v).2 ∧ wI N (m_findWay_90 N K B u k Q v).2 := by
  intro k
  induction k with
  | zero => intro Q v h; exact absurd h hit_0
  | succ k ih =>
    intro Q v h hf ho hi
    rw [m_findWay_90_S]
    by_cases c : v = u
    · rw [if_pos c]; exact ⟨ho, hi⟩
    · rw [if_neg c]
      have hin := fi_in h hf c
      refine ih _ _ (hit_next hN h c) (fwI_up hf rfl) ho ?_
      obtain ⟨o, h1, h2, h3⟩ := hi
      have ho30 : o < 30 := by
        have := vp_lt hin
        rw [h1, nI_clamp (by omega)] at this
        exact this
      refine ⟨o + 1, ?_, by omega, fun i hi => ?_⟩
      · show Q 5 1 + (1 : Int32) = _
        rw [h1, nI_1]
      · show ∃ j : Nat, j < N ∧ upd (Q 1) (Q 5 1).toNatClampNeg v i = nI j
        rw [h1, nI_clamp (by omega)]
        by_cases e : i = o
        · subst e
          rw [pk_us]
          exact hit_j h c
        · rw [pk_un e]
          exact h3 i (by omega)
theorem findWay_12_ok {N K : Nat} {B : Nat → Nat → Int32} {who x : Int32} (hN : N ≤ 30) (hC : chs N B) (hx : ∃ j : Nat, j < N ∧ x = nI j) : ∀ (k : Nat) (Q : Nat → Nat → Int32) (v : Int32), chp N (B 1) k v → fwO Q k → Q 5 1 = (0 : Int32) → wO N Q → wO N (m_findWay_12 N K B who x k Q v).2 ∧ wI N (m_findWay_12 N K B who x k Q v).2 := by
  intro k
  induction k with
  | zero => intro Q v h; exact absurd h chp_0
  | succ k ih =>
    intro Q v h hf h0 ho
    have hi : wI N Q := ⟨0, h0, by omega, fun i hi => by omega⟩
    rw [m_findWay_12_S]
    by_cases c1 : v = (-1 : Int32)
    · rw [if_pos c1]; exact ⟨ho, hi⟩
    · rw [if_neg c1]
      by_cases c2 : v = x
      · rw [if_pos c2]; exact findWay_90_ok hN 31 Q v hit_rf (fwI_0 h0) ho hi
      · rw [if_neg c2]
        by_cases c3 : m_isWithin N K B Q x v = (0 : Int32)
        · rw [if_pos c3]
          by_cases c4 : v = who
          · rw [if_pos c4]; exact ih _ _ (chp_next hN h c1) (fwO_keep hf) h0 ho
          · rw [if_neg c4]
            have hin := fw_in h hf c1
            refine ih _ _ (chp_next hN h c1) (fwO_up hf rfl) h0 ?_
            obtain ⟨o, h1, h2, h3⟩ := ho
            have ho30 : o < 30 := by
              have := vp_lt hin
              rw [h1, nI_clamp (by omega)] at this
              exact this
            refine ⟨o + 1, ?_, by omega, fun i hi => ?_⟩
            · show Q 5 0 + (1 : Int32) = _
              rw [h1, nI_1]
            · show ∃ j : Nat, j < N ∧ upd (Q 0) (Q 5 0).toNatClampNeg v i = nI j
              rw [h1, nI_clamp (by omega)]
              by_cases e : i = o
              · subst e
                rw [pk_us]
                exact chp_j h c1
              · rw [pk_un e]
                exact h3 i (by omega)
        · rw [if_neg c3]; exact findWay_90_ok hN 31 Q _ (hit_of hN hC hx c3) (fwI_0 h0) ho hi
def wOK (N : Nat) (Q : Nat → Nat → Int32) : Prop := Q 5 0 = nI (Q 5 0).toNatClampNeg ∧ (Q 5 0).toNatClampNeg ≤ 30 ∧ Q 5 1 = nI (Q 5 1).toNatClampNeg ∧ (Q 5 1).toNatClampNeg ≤ 30 ∧ (∀ k : Nat, k < (Q 5 0).toNatClampNeg → ∃ j : Nat, j < N ∧ Q 0 k = nI j) ∧ ∀ k : Nat, k < (Q 5 1).toNatClampNeg → ∃ j : Nat, j < N ∧ Q 1 k = nI j
theorem wOK_of {N : Nat} {Q : Nat → Nat → Int32} (ho : wO N Q) (hi : wI N Q) : wOK N Q := by
  obtain ⟨o, h1, h2, h3⟩ := ho
  obtain ⟨i, g1, g2, g3⟩ := hi
  have e1 : (Q 5 0).toNatClampNeg = o := by rw [h1, nI_clamp (by omega)]
  have e2 : (Q 5 1).toNatClampNeg = i := by rw [g1, nI_clamp (by omega)]
  unfold wOK
  rw [e1, e2]
  exact ⟨h1, h2, g1, g2, h3, g3⟩
theorem findWay_ok {N K : Nat} {B Q : Nat → Nat → Int32} {who x : Int32} (hN : N ≤ 30) (hC : chs N B) (hw : ∃ j : Nat, j < N ∧ who = nI j) (hx : ∃ j : Nat, j < N ∧ x = nI j) : wOK N (m_findWay N K B Q who x).2 := by
  have h := findWay_12_ok (K := K) (who := who) hN hC hx 31 (sU (sU Q 5 0 (0 : Int32)) 5 1 (0 : Int32)) who (chp_th hC hw) (fwO_0 rfl) rfl ⟨0, rfl, by omega, fun i hi => by omega⟩
  exact wOK_of h.1 h.2
theorem findWay_90_row {N K : Nat} {B : Nat → Nat → Int32} {u : Int32} {r : Nat} (h1 : r ≠ 1) (h5 : r ≠ 5) : ∀ (k : Nat) (Q : Nat → Nat → Int32) (v : Int32), (m_findWay_90 N K B u k Q v).2 r = Q r := by
  intro k
  induction k with
  | zero => intro Q v; rfl
  | succ k ih =>
    intro Q v
    rw [m_findWay_90_S]
    by_cases c : v = u
    · rw [if_pos c]
    · rw [if_neg c, ih, sU_ne _ _ _ h5, sU_ne _ _ _ h1]
theorem findWay_12_row {N K : Nat} {B : Nat → Nat → Int32} {who x : Int32} {r : Nat} (h0 : r ≠ 0) (h1 : r ≠ 1) (h5 : r ≠ 5) : ∀ (k : Nat) (Q : Nat → Nat → Int32) (v : Int32), (m_findWay_12 N K B who x k Q v).2 r = Q r := by
  intro k
  induction k with
  | zero => intro Q v; rfl
  | succ k ih =>
    intro Q v
    rw [m_findWay_12_S]
    by_cases c1 : v = (-1 : Int32)
    · rw [if_pos c1]
    · rw [if_neg c1]
      by_cases c2 : v = x
      · rw [if_pos c2]; exact findWay_90_row h1 h5 _ _ _
      · rw [if_neg c2]
        by_cases c3 : m_isWithin N K B Q x v = (0 : Int32)
        · rw [if_pos c3]
          by_cases c4 : v = who
          · rw [if_pos c4]; exact ih _ _
          · rw [if_neg c4, ih, sU_ne _ _ _ h5, sU_ne _ _ _ h0]
        · rw [if_neg c3]; exact findWay_90_row h1 h5 _ _ _
theorem findWay_row {N K : Nat} {B Q : Nat → Nat → Int32} {who x : Int32} {r : Nat} (h0 : r ≠ 0) (h1 : r ≠ 1) (h5 : r ≠ 5) : (m_findWay N K B Q who x).2 r = Q r := by
  rw [m_findWay, findWay_12_row h0 h1 h5, sU_ne _ _ _ h5, sU_ne _ _ _ h5]

def m_joins (N : Nat) (K : Nat) (B : Nat → Nat → Int32) (Q : Nat → Nat → Int32) (x y loss : Int32) : (Nat → Nat → Int32) := (if (Q 2 (((30 : Int32) * x) + y).toNatClampNeg) ≤ loss then sU (sU Q 2 (((30 : Int32) * x) + y).toNatClampNeg (Q 2 (((30 : Int32) * x) + y).toNatClampNeg)) 2 (((30 : Int32) * y) + x).toNatClampNeg ((sU Q 2 (((30 : Int32) * x) + y).toNatClampNeg (Q 2 (((30 : Int32) * x) + y).toNatClampNeg)) 2 (((30 : Int32) * x) + y).toNatClampNeg) else sU (sU Q 2 (((30 : Int32) * x) + y).toNatClampNeg loss) 2 (((30 : Int32) * y) + x).toNatClampNeg ((sU Q 2 (((30 : Int32) * x) + y).toNatClampNeg loss) 2 (((30 : Int32) * x) + y).toNatClampNeg))
set_option maxHeartbeats 4000000 in
set_option maxRecDepth 100000 in
theorem cm_joins (l : Launch) (D : va_G) (a : Nat → Nat) (cI cZ : ClassId) (N K : Nat) (B Q : Nat → Nat → Int32) (hN : N ≤ 30) (hKK : K ≤ 10) (hC : chs N B) (hDr : drM N K B) (Z : Nat → Prop) (x y loss : Int32) (h_x : ∃ j : Nat, j < N ∧ x = nI j) (h_y : ∃ j : Nat, j < N ∧ y = nI j) : Met l y_M_joins (Cond.code y_M_joins b_M_joins 4 none :: BW) ({ frames := 0, cells := 0, slots := 0, locals := 0 } : Room) (PcW D Z (wM a cI cZ (nI N) (nI K) B Q) (tM cI cZ) [.ref (a 0), .int x, .int y, .int loss]) (va_Qv (fun u => u = m_joins N K B Q x y loss) (atW D (fun u => wM a cI cZ (nI N) (nI K) B u) (tM cI cZ)) Z) 0 0 Z := by
  refine wStartV (by decide) rfl (Nat.le_of_ble_eq_true rfl) (fun p e s m below meth c Sx hr hlk hP hK hD hS ls hl => ?_)
  obtain ⟨hx, hb, hml, hown, hts⟩ := id Sx
  have hl : lv_has ls 4 [(0, .ref (a 0)), (1, .int x), (2, .int y), (3, .int loss)] := hl
  refine lv_aload_n hx hb d_M_joins_0 rfl (lv_at hl 0 rfl) ?_
  refine va_get (D := D) (ci := 1) (v := .ref (a 10)) (C := R_M) (T := F_M) (N := 16) hx hb hts i_M hown hK hP 0 rfl rfl 13 (by decide) (hts _ fl_M_37) (fun _ h9 => h9) rfl d_M_joins_1 ?_
  refine lv_bipush (v := (30 : Int32)) hx hb d_M_joins_4 (by decide) ?_
  refine lv_iload_n hx hb d_M_joins_6 rfl (lv_at hl 1 rfl) ?_
  refine lv_imul hx hb d_M_joins_7 ?_
  refine lv_iload_n hx hb d_M_joins_8 rfl (lv_at hl 2 rfl) ?_
  refine lv_iadd hx hb d_M_joins_9 ?_
  refine lv_iload_n hx hb d_M_joins_10 rfl (lv_at hl 3 rfl) ?_
  refine lv_aload_n hx hb d_M_joins_11 rfl (lv_at hl 0 rfl) ?_
  refine va_get (D := D) (ci := 1) (v := .ref (a 10)) (C := R_M) (T := F_M) (N := 16) hx hb hts i_M hown hK hP 0 rfl rfl 13 (by decide) (hts _ fl_M_37) (fun _ h9 => h9) rfl d_M_joins_12 ?_
  refine lv_bipush (v := (30 : Int32)) hx hb d_M_joins_15 (by decide) ?_
  refine lv_iload_n hx hb d_M_joins_17 rfl (lv_at hl 1 rfl) ?_
  refine lv_imul hx hb d_M_joins_18 ?_
  refine lv_iload_n hx hb d_M_joins_19 rfl (lv_at hl 2 rfl) ?_
  refine lv_iadd hx hb d_M_joins_20 ?_
  refine va_iald (n := 900) hx hb hK hP 10 0 rfl rfl (ls_in hN (h_x) (h_y)) d_M_joins_21 ?_
  refine lv_icmp_ge (tgt := 29) hx hb d_M_joins_22 (by decide) (fun c_22 => ?_) (fun c_22 => ?_)
  · refine lv_aload_n hx hb d_M_joins_29 rfl (lv_at hl 0 rfl) ?_
    refine va_get (D := D) (ci := 1) (v := .ref (a 10)) (C := R_M) (T := F_M) (N := 16) hx hb hts i_M hown hK hP 0 rfl rfl 13 (by decide) (hts _ fl_M_37) (fun _ h9 => h9) rfl d_M_joins_30 ?_
    refine lv_bipush (v := (30 : Int32)) hx hb d_M_joins_33 (by decide) ?_
    refine lv_iload_n hx hb d_M_joins_35 rfl (lv_at hl 1 rfl) ?_
    refine lv_imul hx hb d_M_joins_36 ?_
    refine lv_iload_n hx hb d_M_joins_37 rfl (lv_at hl 2 rfl) ?_
    refine lv_iadd hx hb d_M_joins_38 ?_
    refine va_iald (n := 900) hx hb hK hP 10 0 rfl rfl (ls_in hN (h_x) (h_y)) d_M_joins_39 ?_
    refine va_iast (n := 900) hx hb hK hP (wM_D hD) hS 10 0 rfl rfl (ls_in hN (h_x) (h_y)) d_M_joins_40 (fun H locs hP _ hS => ?_)
    have hP : va_P D classes (wM a cI cZ (nI N) (nI K) B (sU Q 2 (((30 : Int32) * x) + y).toNatClampNeg (Q 2 (((30 : Int32) * x) + y).toNatClampNeg))) H := by have h9 := hP; rw [wM_s10] at h9; exact h9
    refine lv_aload_n hx hb d_M_joins_41 rfl (lv_at hl 0 rfl) ?_
    refine va_get (D := D) (ci := 1) (v := .ref (a 10)) (C := R_M) (T := F_M) (N := 16) hx hb hts i_M hown hK hP 0 rfl rfl 13 (by decide) (hts _ fl_M_37) (fun _ h9 => h9) rfl d_M_joins_42 ?_
    refine lv_bipush (v := (30 : Int32)) hx hb d_M_joins_45 (by decide) ?_
    refine lv_iload_n hx hb d_M_joins_47 rfl (lv_at hl 2 rfl) ?_
    refine lv_imul hx hb d_M_joins_48 ?_
    refine lv_iload_n hx hb d_M_joins_49 rfl (lv_at hl 1 rfl) ?_
    refine lv_iadd hx hb d_M_joins_50 ?_
    refine lv_aload_n hx hb d_M_joins_51 rfl (lv_at hl 0 rfl) ?_
    refine va_get (D := D) (ci := 1) (v := .ref (a 10)) (C := R_M) (T := F_M) (N := 16) hx hb hts i_M hown hK hP 0 rfl rfl 13 (by decide) (hts _ fl_M_37) (fun _ h9 => h9) rfl d_M_joins_52 ?_
    refine lv_bipush (v := (30 : Int32)) hx hb d_M_joins_55 (by decide) ?_
    refine lv_iload_n hx hb d_M_joins_57 rfl (lv_at hl 1 rfl) ?_
    refine lv_imul hx hb d_M_joins_58 ?_
    refine lv_iload_n hx hb d_M_joins_59 rfl (lv_at hl 2 rfl) ?_
    refine lv_iadd hx hb d_M_joins_60 ?_
    refine va_iald (n := 900) hx hb hK hP 10 0 rfl rfl (ls_in hN (h_x) (h_y)) d_M_joins_61 ?_
    refine va_iast (n := 900) hx hb hK hP (wM_D hD) hS 10 0 rfl rfl (ls_in hN (h_y) (h_x)) d_M_joins_62 (fun H locs hP _ hS => ?_)
    have hP : va_P D classes (wM a cI cZ (nI N) (nI K) B (sU (sU Q 2 (((30 : Int32) * x) + y).toNatClampNeg (Q 2 (((30 : Int32) * x) + y).toNatClampNeg)) 2 (((30 : Int32) * y) + x).toNatClampNeg ((sU Q 2 (((30 : Int32) * x) + y).toNatClampNeg (Q 2 (((30 : Int32) * x) + y).toNatClampNeg)) 2 (((30 : Int32) * x) + y).toNatClampNeg))) H := by have h9 := hP; rw [wM_s10] at h9; exact h9
    exact wRetV (u := sU (sU Q 2 (((30 : Int32) * x) + y).toNatClampNeg (Q 2 (((30 : Int32) * x) + y).toNatClampNeg)) 2 (((30 : Int32) * y) + x).toNatClampNeg ((sU Q 2 (((30 : Int32) * x) + y).toNatClampNeg (Q 2 (((30 : Int32) * x) + y).toNatClampNeg)) 2 (((30 : Int32) * x) + y).toNatClampNeg)) hx hb hr hlk (show sU (sU Q 2 (((30 : Int32) * x) + y).toNatClampNeg (Q 2 (((30 : Int32) * x) + y).toNatClampNeg)) 2 (((30 : Int32) * y) + x).toNatClampNeg ((sU Q 2 (((30 : Int32) * x) + y).toNatClampNeg (Q 2 (((30 : Int32) * x) + y).toNatClampNeg)) 2 (((30 : Int32) * x) + y).toNatClampNeg) = m_joins N K B Q x y loss from by rw [m_joins, if_pos c_22]) hP hK hS d_M_joins_63
  · refine lv_iload_n hx hb d_M_joins_25 rfl (lv_at hl 3 rfl) ?_
    refine lv_goto (tgt := 40) hx hb d_M_joins_26 (by decide) ?_
    refine va_iast (n := 900) hx hb hK hP (wM_D hD) hS 10 0 rfl rfl (ls_in hN (h_x) (h_y)) d_M_joins_40 (fun H locs hP _ hS => ?_)
    have hP : va_P D classes (wM a cI cZ (nI N) (nI K) B (sU Q 2 (((30 : Int32) * x) + y).toNatClampNeg loss)) H := by have h9 := hP; rw [wM_s10] at h9; exact h9
    refine lv_aload_n hx hb d_M_joins_41 rfl (lv_at hl 0 rfl) ?_
    refine va_get (D := D) (ci := 1) (v := .ref (a 10)) (C := R_M) (T := F_M) (N := 16) hx hb hts i_M hown hK hP 0 rfl rfl 13 (by decide) (hts _ fl_M_37) (fun _ h9 => h9) rfl d_M_joins_42 ?_
    refine lv_bipush (v := (30 : Int32)) hx hb d_M_joins_45 (by decide) ?_
    refine lv_iload_n hx hb d_M_joins_47 rfl (lv_at hl 2 rfl) ?_
    refine lv_imul hx hb d_M_joins_48 ?_
    refine lv_iload_n hx hb d_M_joins_49 rfl (lv_at hl 1 rfl) ?_
    refine lv_iadd hx hb d_M_joins_50 ?_
    refine lv_aload_n hx hb d_M_joins_51 rfl (lv_at hl 0 rfl) ?_
    refine va_get (D := D) (ci := 1) (v := .ref (a 10)) (C := R_M) (T := F_M) (N := 16) hx hb hts i_M hown hK hP 0 rfl rfl 13 (by decide) (hts _ fl_M_37) (fun _ h9 => h9) rfl d_M_joins_52 ?_
    refine lv_bipush (v := (30 : Int32)) hx hb d_M_joins_55 (by decide) ?_
    refine lv_iload_n hx hb d_M_joins_57 rfl (lv_at hl 1 rfl) ?_
    refine lv_imul hx hb d_M_joins_58 ?_
    refine lv_iload_n hx hb d_M_joins_59 rfl (lv_at hl 2 rfl) ?_
    refine lv_iadd hx hb d_M_joins_60 ?_
    refine va_iald (n := 900) hx hb hK hP 10 0 rfl rfl (ls_in hN (h_x) (h_y)) d_M_joins_61 ?_
    refine va_iast (n := 900) hx hb hK hP (wM_D hD) hS 10 0 rfl rfl (ls_in hN (h_y) (h_x)) d_M_joins_62 (fun H locs hP _ hS => ?_)
    have hP : va_P D classes (wM a cI cZ (nI N) (nI K) B (sU (sU Q 2 (((30 : Int32) * x) + y).toNatClampNeg loss) 2 (((30 : Int32) * y) + x).toNatClampNeg ((sU Q 2 (((30 : Int32) * x) + y).toNatClampNeg loss) 2 (((30 : Int32) * x) + y).toNatClampNeg))) H := by have h9 := hP; rw [wM_s10] at h9; exact h9
    exact wRetV (u := sU (sU Q 2 (((30 : Int32) * x) + y).toNatClampNeg loss) 2 (((30 : Int32) * y) + x).toNatClampNeg ((sU Q 2 (((30 : Int32) * x) + y).toNatClampNeg loss) 2 (((30 : Int32) * x) + y).toNatClampNeg)) hx hb hr hlk (show sU (sU Q 2 (((30 : Int32) * x) + y).toNatClampNeg loss) 2 (((30 : Int32) * y) + x).toNatClampNeg ((sU Q 2 (((30 : Int32) * x) + y).toNatClampNeg loss) 2 (((30 : Int32) * x) + y).toNatClampNeg) = m_joins N K B Q x y loss from by rw [m_joins, if_neg c_22]) hP hK hS d_M_joins_63
