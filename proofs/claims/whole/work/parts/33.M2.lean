def q01 (Q : Nat → Nat → Int32) : Prop := ∀ k : Nat, k < 900 → Q 3 k = (0 : Int32) ∨ Q 3 k = (1 : Int32)
theorem q01_n {v : Int32} (h : v = (0 : Int32) ∨ v = (1 : Int32)) : narrow .boolean (.int v) = .int v := by
  rcases h with h | h <;> rw [h] <;> rfl
theorem q01_at {Q : Nat → Nat → Int32} {i : Int32} (h : q01 Q) (hi : vp_in i 900) : Q 3 i.toNatClampNeg = (0 : Int32) ∨ Q 3 i.toNatClampNeg = (1 : Int32) := h _ (vp_lt hi)
def m_passes_15 (N : Nat) (K : Nat) (B : Nat → Nat → Int32) (Q : Nat → Nat → Int32) (x : Int32) (y : Int32) : Nat → Nat → Int32 → Int32
  | 0, i, v3 => v3
  | k + 1, i, v3 => (if (B 5 i) = (1 : Int32) then (if (Q 3 (((30 : Int32) * x) + (B 3 i)).toNatClampNeg) = (0 : Int32) then (if (Q 3 (((30 : Int32) * x) + (B 4 i)).toNatClampNeg) = (0 : Int32) then (if v3 = (0 : Int32) then m_passes_15 N K B Q x y k (i + 1) (0 : Int32) else m_passes_15 N K B Q x y k (i + 1) (1 : Int32)) else (if (Q 3 (((30 : Int32) * (B 3 i)) + y).toNatClampNeg) = (0 : Int32) then (if v3 = (0 : Int32) then m_passes_15 N K B Q x y k (i + 1) (0 : Int32) else m_passes_15 N K B Q x y k (i + 1) (1 : Int32)) else (if v3 = (0 : Int32) then m_passes_15 N K B Q x y k (i + 1) (1 : Int32) else m_passes_15 N K B Q x y k (i + 1) (1 : Int32)))) else (if (Q 3 (((30 : Int32) * (B 4 i)) + y).toNatClampNeg) = (0 : Int32) then (if (Q 3 (((30 : Int32) * x) + (B 4 i)).toNatClampNeg) = (0 : Int32) then (if v3 = (0 : Int32) then m_passes_15 N K B Q x y k (i + 1) (0 : Int32) else m_passes_15 N K B Q x y k (i + 1) (1 : Int32)) else (if (Q 3 (((30 : Int32) * (B 3 i)) + y).toNatClampNeg) = (0 : Int32) then (if v3 = (0 : Int32) then m_passes_15 N K B Q x y k (i + 1) (0 : Int32) else m_passes_15 N K B Q x y k (i + 1) (1 : Int32)) else (if v3 = (0 : Int32) then m_passes_15 N K B Q x y k (i + 1) (1 : Int32) else m_passes_15 N K B Q x y k (i + 1) (1 : Int32)))) else (if (Q 3 (((30 : Int32) * x) + (B 4 i)).toNatClampNeg) = (0 : Int32) then (if v3 = (0 : Int32) then m_passes_15 N K B Q x y k (i + 1) (1 : Int32) else m_passes_15 N K B Q x y k (i + 1) (1 : Int32)) else (if (Q 3 (((30 : Int32) * (B 3 i)) + y).toNatClampNeg) = (0 : Int32) then (if v3 = (0 : Int32) then m_passes_15 N K B Q x y k (i + 1) (1 : Int32) else m_passes_15 N K B Q x y k (i + 1) (1 : Int32)) else (if v3 = (0 : Int32) then m_passes_15 N K B Q x y k (i + 1) (1 : Int32) else m_passes_15 N K B Q x y k (i + 1) (1 : Int32)))))) else (if (B 6 i) = (1 : Int32) then (if (Q 3 (((30 : Int32) * x) + (B 3 i)).toNatClampNeg) = (0 : Int32) then (if (Q 3 (((30 : Int32) * x) + (B 4 i)).toNatClampNeg) = (0 : Int32) then (if v3 = (0 : Int32) then m_passes_15 N K B Q x y k (i + 1) (0 : Int32) else m_passes_15 N K B Q x y k (i + 1) (1 : Int32)) else (if (Q 3 (((30 : Int32) * (B 3 i)) + y).toNatClampNeg) = (0 : Int32) then (if v3 = (0 : Int32) then m_passes_15 N K B Q x y k (i + 1) (0 : Int32) else m_passes_15 N K B Q x y k (i + 1) (1 : Int32)) else (if v3 = (0 : Int32) then m_passes_15 N K B Q x y k (i + 1) (1 : Int32) else m_passes_15 N K B Q x y k (i + 1) (1 : Int32)))) else (if (Q 3 (((30 : Int32) * (B 4 i)) + y).toNatClampNeg) = (0 : Int32) then (if (Q 3 (((30 : Int32) * x) + (B 4 i)).toNatClampNeg) = (0 : Int32) then (if v3 = (0 : Int32) then m_passes_15 N K B Q x y k (i + 1) (0 : Int32) else m_passes_15 N K B Q x y k (i + 1) (1 : Int32)) else (if (Q 3 (((30 : Int32) * (B 3 i)) + y).toNatClampNeg) = (0 : Int32) then (if v3 = (0 : Int32) then m_passes_15 N K B Q x y k (i + 1) (0 : Int32) else m_passes_15 N K B Q x y k (i + 1) (1 : Int32)) else (if v3 = (0 : Int32) then m_passes_15 N K B Q x y k (i + 1) (1 : Int32) else m_passes_15 N K B Q x y k (i + 1) (1 : Int32)))) else (if (Q 3 (((30 : Int32) * x) + (B 4 i)).toNatClampNeg) = (0 : Int32) then (if v3 = (0 : Int32) then m_passes_15 N K B Q x y k (i + 1) (1 : Int32) else m_passes_15 N K B Q x y k (i + 1) (1 : Int32)) else (if (Q 3 (((30 : Int32) * (B 3 i)) + y).toNatClampNeg) = (0 : Int32) then (if v3 = (0 : Int32) then m_passes_15 N K B Q x y k (i + 1) (1 : Int32) else m_passes_15 N K B Q x y k (i + 1) (1 : Int32)) else (if v3 = (0 : Int32) then m_passes_15 N K B Q x y k (i + 1) (1 : Int32) else m_passes_15 N K B Q x y k (i + 1) (1 : Int32)))))) else (if (Q 3 (((30 : Int32) * x) + (B 3 i)).toNatClampNeg) = (0 : Int32) then (if (Q 3 (((30 : Int32) * x) + (B 4 i)).toNatClampNeg) = (0 : Int32) then (if v3 = (0 : Int32) then m_passes_15 N K B Q x y k (i + 1) (0 : Int32) else m_passes_15 N K B Q x y k (i + 1) (1 : Int32)) else (if (Q 3 (((30 : Int32) * (B 3 i)) + y).toNatClampNeg) = (0 : Int32) then (if v3 = (0 : Int32) then m_passes_15 N K B Q x y k (i + 1) (0 : Int32) else m_passes_15 N K B Q x y k (i + 1) (1 : Int32)) else (if v3 = (0 : Int32) then m_passes_15 N K B Q x y k (i + 1) (0 : Int32) else m_passes_15 N K B Q x y k (i + 1) (1 : Int32)))) else (if (Q 3 (((30 : Int32) * (B 4 i)) + y).toNatClampNeg) = (0 : Int32) then (if (Q 3 (((30 : Int32) * x) + (B 4 i)).toNatClampNeg) = (0 : Int32) then (if v3 = (0 : Int32) then m_passes_15 N K B Q x y k (i + 1) (0 : Int32) else m_passes_15 N K B Q x y k (i + 1) (1 : Int32)) else (if (Q 3 (((30 : Int32) * (B 3 i)) + y).toNatClampNeg) = (0 : Int32) then (if v3 = (0 : Int32) then m_passes_15 N K B Q x y k (i + 1) (0 : Int32) else m_passes_15 N K B Q x y k (i + 1) (1 : Int32)) else (if v3 = (0 : Int32) then m_passes_15 N K B Q x y k (i + 1) (0 : Int32) else m_passes_15 N K B Q x y k (i + 1) (1 : Int32)))) else (if (Q 3 (((30 : Int32) * x) + (B 4 i)).toNatClampNeg) = (0 : Int32) then (if v3 = (0 : Int32) then m_passes_15 N K B Q x y k (i + 1) (0 : Int32) else m_passes_15 N K B Q x y k (i + 1) (1 : Int32)) else (if (Q 3 (((30 : Int32) * (B 3 i)) + y).toNatClampNeg) = (0 : Int32) then (if v3 = (0 : Int32) then m_passes_15 N K B Q x y k (i + 1) (0 : Int32) else m_passes_15 N K B Q x y k (i + 1) (1 : Int32)) else (if v3 = (0 : Int32) then m_passes_15 N K B Q x y k (i + 1) (0 : Int32) else m_passes_15 N K B Q x y k (i + 1) (1 : Int32))))))))
theorem m_passes_15_0 (N : Nat) (K : Nat) (B : Nat → Nat → Int32) (Q : Nat → Nat → Int32) (x : Int32) (y : Int32) (i : Nat) (v3 : Int32) : m_passes_15 N K B Q x y 0 i v3 = v3 := rfl
theorem m_passes_15_S (N : Nat) (K : Nat) (B : Nat → Nat → Int32) (Q : Nat → Nat → Int32) (x : Int32) (y : Int32) (k : Nat) (i : Nat) (v3 : Int32) : m_passes_15 N K B Q x y (k + 1) i v3 = (if (B 5 i) = (1 : Int32) then (if (Q 3 (((30 : Int32) * x) + (B 3 i)).toNatClampNeg) = (0 : Int32) then (if (Q 3 (((30 : Int32) * x) + (B 4 i)).toNatClampNeg) = (0 : Int32) then (if v3 = (0 : Int32) then m_passes_15 N K B Q x y k (i + 1) (0 : Int32) else m_passes_15 N K B Q x y k (i + 1) (1 : Int32)) else (if (Q 3 (((30 : Int32) * (B 3 i)) + y).toNatClampNeg) = (0 : Int32) then (if v3 = (0 : Int32) then m_passes_15 N K B Q x y k (i + 1) (0 : Int32) else m_passes_15 N K B Q x y k (i + 1) (1 : Int32)) else (if v3 = (0 : Int32) then m_passes_15 N K B Q x y k (i + 1) (1 : Int32) else m_passes_15 N K B Q x y k (i + 1) (1 : Int32)))) else (if (Q 3 (((30 : Int32) * (B 4 i)) + y).toNatClampNeg) = (0 : Int32) then (if (Q 3 (((30 : Int32) * x) + (B 4 i)).toNatClampNeg) = (0 : Int32) then (if v3 = (0 : Int32) then m_passes_15 N K B Q x y k (i + 1) (0 : Int32) else m_passes_15 N K B Q x y k (i + 1) (1 : Int32)) else (if (Q 3 (((30 : Int32) * (B 3 i)) + y).toNatClampNeg) = (0 : Int32) then (if v3 = (0 : Int32) then m_passes_15 N K B Q x y k (i + 1) (0 : Int32) else m_passes_15 N K B Q x y k (i + 1) (1 : Int32)) else (if v3 = (0 : Int32) then m_passes_15 N K B Q x y k (i + 1) (1 : Int32) else m_passes_15 N K B Q x y k (i + 1) (1 : Int32)))) else (if (Q 3 (((30 : Int32) * x) + (B 4 i)).toNatClampNeg) = (0 : Int32) then (if v3 = (0 : Int32) then m_passes_15 N K B Q x y k (i + 1) (1 : Int32) else m_passes_15 N K B Q x y k (i + 1) (1 : Int32)) else (if (Q 3 (((30 : Int32) * (B 3 i)) + y).toNatClampNeg) = (0 : Int32) then (if v3 = (0 : Int32) then m_passes_15 N K B Q x y k (i + 1) (1 : Int32) else m_passes_15 N K B Q x y k (i + 1) (1 : Int32)) else (if v3 = (0 : Int32) then m_passes_15 N K B Q x y k (i + 1) (1 : Int32) else m_passes_15 N K B Q x y k (i + 1) (1 : Int32)))))) else (if (B 6 i) = (1 : Int32) then (if (Q 3 (((30 : Int32) * x) + (B 3 i)).toNatClampNeg) = (0 : Int32) then (if (Q 3 (((30 : Int32) * x) + (B 4 i)).toNatClampNeg) = (0 : Int32) then (if v3 = (0 : Int32) then m_passes_15 N K B Q x y k (i + 1) (0 : Int32) else m_passes_15 N K B Q x y k (i + 1) (1 : Int32)) else (if (Q 3 (((30 : Int32) * (B 3 i)) + y).toNatClampNeg) = (0 : Int32) then (if v3 = (0 : Int32) then m_passes_15 N K B Q x y k (i + 1) (0 : Int32) else m_passes_15 N K B Q x y k (i + 1) (1 : Int32)) else (if v3 = (0 : Int32) then m_passes_15 N K B Q x y k (i + 1) (1 : Int32) else m_passes_15 N K B Q x y k (i + 1) (1 : Int32)))) else (if (Q 3 (((30 : Int32) * (B 4 i)) + y).toNatClampNeg) = (0 : Int32) then (if (Q 3 (((30 : Int32) * x) + (B 4 i)).toNatClampNeg) = (0 : Int32) then (if v3 = (0 : Int32) then m_passes_15 N K B Q x y k (i + 1) (0 : Int32) else m_passes_15 N K B Q x y k (i + 1) (1 : Int32)) else (if (Q 3 (((30 : Int32) * (B 3 i)) + y).toNatClampNeg) = (0 : Int32) then (if v3 = (0 : Int32) then m_passes_15 N K B Q x y k (i + 1) (0 : Int32) else m_passes_15 N K B Q x y k (i + 1) (1 : Int32)) else (if v3 = (0 : Int32) then m_passes_15 N K B Q x y k (i + 1) (1 : Int32) else m_passes_15 N K B Q x y k (i + 1) (1 : Int32)))) else (if (Q 3 (((30 : Int32) * x) + (B 4 i)).toNatClampNeg) = (0 : Int32) then (if v3 = (0 : Int32) then m_passes_15 N K B Q x y k (i + 1) (1 : Int32) else m_passes_15 N K B Q x y k (i + 1) (1 : Int32)) else (if (Q 3 (((30 : Int32) * (B 3 i)) + y).toNatClampNeg) = (0 : Int32) then (if v3 = (0 : Int32) then m_passes_15 N K B Q x y k (i + 1) (1 : Int32) else m_passes_15 N K B Q x y k (i + 1) (1 : Int32)) else (if v3 = (0 : Int32) then m_passes_15 N K B Q x y k (i + 1) (1 : Int32) else m_passes_15 N K B Q x y k (i + 1) (1 : Int32)))))) else (if (Q 3 (((30 : Int32) * x) + (B 3 i)).toNatClampNeg) = (0 : Int32) then (if (Q 3 (((30 : Int32) * x) + (B 4 i)).toNatClampNeg) = (0 : Int32) then (if v3 = (0 : Int32) then m_passes_15 N K B Q x y k (i + 1) (0 : Int32) else m_passes_15 N K B Q x y k (i + 1) (1 : Int32)) else (if (Q 3 (((30 : Int32) * (B 3 i)) + y).toNatClampNeg) = (0 : Int32) then (if v3 = (0 : Int32) then m_passes_15 N K B Q x y k (i + 1) (0 : Int32) else m_passes_15 N K B Q x y k (i + 1) (1 : Int32)) else (if v3 = (0 : Int32) then m_passes_15 N K B Q x y k (i + 1) (0 : Int32) else m_passes_15 N K B Q x y k (i + 1) (1 : Int32)))) else (if (Q 3 (((30 : Int32) * (B 4 i)) + y).toNatClampNeg) = (0 : Int32) then (if (Q 3 (((30 : Int32) * x) + (B 4 i)).toNatClampNeg) = (0 : Int32) then (if v3 = (0 : Int32) then m_passes_15 N K B Q x y k (i + 1) (0 : Int32) else m_passes_15 N K B Q x y k (i + 1) (1 : Int32)) else (if (Q 3 (((30 : Int32) * (B 3 i)) + y).toNatClampNeg) = (0 : Int32) then (if v3 = (0 : Int32) then m_passes_15 N K B Q x y k (i + 1) (0 : Int32) else m_passes_15 N K B Q x y k (i + 1) (1 : Int32)) else (if v3 = (0 : Int32) then m_passes_15 N K B Q x y k (i + 1) (0 : Int32) else m_passes_15 N K B Q x y k (i + 1) (1 : Int32)))) else (if (Q 3 (((30 : Int32) * x) + (B 4 i)).toNatClampNeg) = (0 : Int32) then (if v3 = (0 : Int32) then m_passes_15 N K B Q x y k (i + 1) (0 : Int32) else m_passes_15 N K B Q x y k (i + 1) (1 : Int32)) else (if (Q 3 (((30 : Int32) * (B 3 i)) + y).toNatClampNeg) = (0 : Int32) then (if v3 = (0 : Int32) then m_passes_15 N K B Q x y k (i + 1) (0 : Int32) else m_passes_15 N K B Q x y k (i + 1) (1 : Int32)) else (if v3 = (0 : Int32) then m_passes_15 N K B Q x y k (i + 1) (0 : Int32) else m_passes_15 N K B Q x y k (i + 1) (1 : Int32)))))))) := rfl
set_option maxHeartbeats 4000000 in
set_option maxRecDepth 100000 in
theorem wm_passes_15 (l : Launch) (D : va_G) (a : Nat → Nat) (cI cZ : ClassId) (N K : Nat) (B Q : Nat → Nat → Int32) (hN : N ≤ 30) (hKK : K ≤ 10) (hC : chs N B) (hDr : drM N K B) (x : Int32) (y : Int32) (h_x : ∃ j : Nat, j < N ∧ x = nI j) (h_y : ∃ j : Nat, j < N ∧ y = nI j) (hq : q01 Q) {p : Program} {e : Env} {s : State} {m : MethodId} {below : List Frame} {meth : Method} {c : Code} (Sx : CallFix p m c b_M_passes 8 s ([.ref (a 0), .int x, .int y] : List Value).toArray BW R_M) (hr : meth.sig.returnType = (some .boolean)) (hlk : meth.locks = false) (hP : va_P D classes (wM a cI cZ (nI N) (nI K) B Q) s.heap) (hK : va_K D classes (tM cI cZ) s) : ∀ (k i : Nat), i + k = K → ∀ (v3 : Int32) (ls : Array Slot), (v3 = (0 : Int32) ∨ v3 = (1 : Int32)) → lv_has ls 8 [(0, .ref (a 0)), (1, .int x), (2, .int y), (3, .int v3), (4, .int (nI i))] → W p l e ({ frames := 0, cells := 0, slots := 0, locals := 0 } : Room) s m ([.ref (a 0), .int x, .int y] : List Value).toArray below meth c s.heap [] 0 0 (MQ below (vp_Si (fun r => r = m_passes_15 N K B Q x y k i v3)) ([.ref (a 0), .int x, .int y] : List Value).toArray s 0 0 (fun _ => False)) (F0 m 15 ls []) := by
  obtain ⟨hx, hb, hml, hown, hts⟩ := id Sx
  intro k
  induction k with
  | zero =>
    intro i hi v3 ls hv hl
    refine lv_iload hx hb d_M_passes_15 (lv_at hl 4 rfl) ?_
    refine lv_aload_n hx hb d_M_passes_17 rfl (lv_at hl 0 rfl) ?_
    refine va_get (D := D) (ci := 1) (v := .int (nI K)) (C := R_M) (T := F_M) (N := 16) hx hb hts i_M hown hK hP 0 rfl rfl 4 (by decide) (hts _ fl_M_63) (fun _ h9 => h9) rfl d_M_passes_18 ?_
    refine lv_icmp_ge (tgt := 178) hx hb d_M_passes_21 (by decide) (fun c_21 => ?_) (fun c_21 => absurd (nI_le (a := K) (b := i) (by omega) (by omega)) c_21)
    refine lv_iload_n hx hb d_M_passes_178 rfl (lv_at hl 3 rfl) ?_
    exact roRet hx hb hr (q01_n hv) hlk (show v3 = m_passes_15 N K B Q x y 0 i v3 from by rw [m_passes_15_0]) d_M_passes_179
  | succ k ih =>
    intro i hi v3 ls hv hl
    refine lv_iload hx hb d_M_passes_15 (lv_at hl 4 rfl) ?_
    refine lv_aload_n hx hb d_M_passes_17 rfl (lv_at hl 0 rfl) ?_
    refine va_get (D := D) (ci := 1) (v := .int (nI K)) (C := R_M) (T := F_M) (N := 16) hx hb hts i_M hown hK hP 0 rfl rfl 4 (by decide) (hts _ fl_M_63) (fun _ h9 => h9) rfl d_M_passes_18 ?_
    refine lv_icmp_ge (tgt := 178) hx hb d_M_passes_21 (by decide) (fun c_21 => absurd c_21 (nI_ge (a := i) (b := K) (by omega) (by omega))) (fun c_21 => ?_)
    refine lv_aload_n hx hb d_M_passes_24 rfl (lv_at hl 0 rfl) ?_
    refine va_get (D := D) (ci := 1) (v := .ref (a 6)) (C := R_M) (T := F_M) (N := 16) hx hb hts i_M hown hK hP 0 rfl rfl 7 (by decide) (hts _ fl_M_25) (fun _ h9 => h9) rfl d_M_passes_25 ?_
    refine lv_iload hx hb d_M_passes_28 (lv_at hl 4 rfl) ?_
    refine x_ialdN (n := 10) hx hb hK hP 6 0 rfl rfl (by omega) (by omega) d_M_passes_30 ?_
    refine lv_iconst (v := (1 : Int32)) hx hb d_M_passes_31 (by decide) ?_
    refine lv_icmp_eq (tgt := 46) hx hb d_M_passes_32 (by decide) (fun c_32 => ?_) (fun c_32 => ?_)
    · refine lv_iconst (v := (1 : Int32)) hx hb d_M_passes_46 (by decide) ?_
      refine lv_goto (tgt := 51) hx hb d_M_passes_47 (by decide) ?_
      refine lv_istore (lv' := [(5, .int (1 : Int32)), (0, .ref (a 0)), (1, .int x), (2, .int y), (3, .int v3), (4, .int (nI i))]) hx hb d_M_passes_51 hl (by decide) rfl (fun ls hl => ?_)
      refine lv_aload_n hx hb d_M_passes_53 rfl (lv_at hl 1 rfl) ?_
      refine va_get (D := D) (ci := 1) (v := .ref (a 11)) (C := R_M) (T := F_M) (N := 16) hx hb hts i_M hown hK hP 0 rfl rfl 14 (by decide) (hts _ fl_M_40) (fun _ h9 => h9) rfl d_M_passes_54 ?_
      refine lv_bipush (v := (30 : Int32)) hx hb d_M_passes_57 (by decide) ?_
      refine lv_iload_n hx hb d_M_passes_59 rfl (lv_at hl 2 rfl) ?_
      refine lv_imul hx hb d_M_passes_60 ?_
      refine lv_aload_n hx hb d_M_passes_61 rfl (lv_at hl 1 rfl) ?_
      refine va_get (D := D) (ci := 1) (v := .ref (a 4)) (C := R_M) (T := F_M) (N := 16) hx hb hts i_M hown hK hP 0 rfl rfl 5 (by decide) (hts _ fl_M_19) (fun _ h9 => h9) rfl d_M_passes_62 ?_
      refine lv_iload hx hb d_M_passes_65 (lv_at hl 5 rfl) ?_
      refine x_ialdN (n := 10) hx hb hK hP 4 0 rfl rfl (by omega) (by omega) d_M_passes_67 ?_
      refine lv_iadd hx hb d_M_passes_68 ?_
      refine va_zald (n := 900) hx hb hK hP 11 1 rfl rfl (ls_in hN (h_x) (dr3_i hDr (by omega))) d_M_passes_69 ?_
      refine lv_if_eq (tgt := 97) hx hb d_M_passes_70 (by decide) (fun c_70 => ?_) (fun c_70 => ?_)
      · refine lv_iconst (v := (0 : Int32)) hx hb d_M_passes_97 (by decide) ?_
        refine lv_istore (lv' := [(6, .int (0 : Int32)), (5, .int (1 : Int32)), (0, .ref (a 0)), (1, .int x), (2, .int y), (3, .int v3), (4, .int (nI i))]) hx hb d_M_passes_98 hl (by decide) rfl (fun ls hl => ?_)
        refine lv_aload_n hx hb d_M_passes_100 rfl (lv_at hl 2 rfl) ?_
        refine va_get (D := D) (ci := 1) (v := .ref (a 11)) (C := R_M) (T := F_M) (N := 16) hx hb hts i_M hown hK hP 0 rfl rfl 14 (by decide) (hts _ fl_M_40) (fun _ h9 => h9) rfl d_M_passes_101 ?_
        refine lv_bipush (v := (30 : Int32)) hx hb d_M_passes_104 (by decide) ?_
        refine lv_iload_n hx hb d_M_passes_106 rfl (lv_at hl 3 rfl) ?_
        refine lv_imul hx hb d_M_passes_107 ?_
        refine lv_aload_n hx hb d_M_passes_108 rfl (lv_at hl 2 rfl) ?_
        refine va_get (D := D) (ci := 1) (v := .ref (a 5)) (C := R_M) (T := F_M) (N := 16) hx hb hts i_M hown hK hP 0 rfl rfl 6 (by decide) (hts _ fl_M_22) (fun _ h9 => h9) rfl d_M_passes_109 ?_
        refine lv_iload hx hb d_M_passes_112 (lv_at hl 6 rfl) ?_
        refine x_ialdN (n := 10) hx hb hK hP 5 0 rfl rfl (by omega) (by omega) d_M_passes_114 ?_
        refine lv_iadd hx hb d_M_passes_115 ?_
        refine va_zald (n := 900) hx hb hK hP 11 1 rfl rfl (ls_in hN (h_x) (dr4_i hDr (by omega))) d_M_passes_116 ?_
        refine lv_if_eq (tgt := 144) hx hb d_M_passes_117 (by decide) (fun c_117 => ?_) (fun c_117 => ?_)
        · refine lv_iconst (v := (0 : Int32)) hx hb d_M_passes_144 (by decide) ?_
          refine lv_istore (lv' := [(7, .int (0 : Int32)), (6, .int (0 : Int32)), (5, .int (1 : Int32)), (0, .ref (a 0)), (1, .int x), (2, .int y), (3, .int v3), (4, .int (nI i))]) hx hb d_M_passes_145 hl (by decide) rfl (fun ls hl => ?_)
          refine lv_iload_n hx hb d_M_passes_147 rfl (lv_at hl 6 rfl) ?_
          refine lv_if_ne (tgt := 166) hx hb d_M_passes_148 (by decide) (fun c_148 => ?_) (fun c_148 => ?_)
          · refine lv_iconst (v := (1 : Int32)) hx hb d_M_passes_166 (by decide) ?_
            refine lv_goto (tgt := 171) hx hb d_M_passes_167 (by decide) ?_
            refine lv_istore_n (lv' := [(3, .int (1 : Int32)), (7, .int (0 : Int32)), (6, .int (0 : Int32)), (5, .int (1 : Int32)), (0, .ref (a 0)), (1, .int x), (2, .int y), (4, .int (nI i))]) hx hb d_M_passes_171 rfl hl (by decide) rfl (fun ls hl => ?_)
            refine lv_iinc (v := nI (i + 1)) (lv' := [(4, .int (nI (i + 1))), (3, .int (1 : Int32)), (7, .int (0 : Int32)), (6, .int (0 : Int32)), (5, .int (1 : Int32)), (0, .ref (a 0)), (1, .int x), (2, .int y)]) hx hb d_M_passes_172 hl (k := 7) rfl (nI_1 i) (by decide) rfl (fun ls hl => ?_)
            refine lv_goto (tgt := 15) hx hb d_M_passes_175 (by decide) ?_
            have e_b : m_passes_15 N K B Q x y (k + 1) i v3 = m_passes_15 N K B Q x y k (i + 1) (1 : Int32) := by rw [m_passes_15_S, if_pos c_32, if_pos c_70, if_pos c_117, if_neg c_148]
            rw [e_b]
            exact ih (i + 1) (by omega) (1 : Int32) ls (by first | exact Or.inl rfl | exact Or.inr rfl) (lv_sub hl [5, 6, 7, 1, 0] rfl)
          · refine lv_iload hx hb d_M_passes_151 (lv_at hl 2 rfl) ?_
            refine lv_if_eq (tgt := 170) hx hb d_M_passes_153 (by decide) (fun c_153 => absurd c_153 (by decide)) (fun c_153 => ?_)
            refine lv_iload hx hb d_M_passes_156 (lv_at hl 1 rfl) ?_
            refine lv_if_ne (tgt := 166) hx hb d_M_passes_158 (by decide) (fun c_158 => absurd c_158 (by decide)) (fun c_158 => ?_)
            refine lv_iload hx hb d_M_passes_161 (lv_at hl 0 rfl) ?_
            refine lv_if_eq (tgt := 170) hx hb d_M_passes_163 (by decide) (fun c_163 => ?_) (fun c_163 => absurd c_163 (by decide))
            refine lv_iconst (v := (0 : Int32)) hx hb d_M_passes_170 (by decide) ?_
            refine lv_istore_n (lv' := [(3, .int (0 : Int32)), (7, .int (0 : Int32)), (6, .int (0 : Int32)), (5, .int (1 : Int32)), (0, .ref (a 0)), (1, .int x), (2, .int y), (4, .int (nI i))]) hx hb d_M_passes_171 rfl hl (by decide) rfl (fun ls hl => ?_)
            refine lv_iinc (v := nI (i + 1)) (lv' := [(4, .int (nI (i + 1))), (3, .int (0 : Int32)), (7, .int (0 : Int32)), (6, .int (0 : Int32)), (5, .int (1 : Int32)), (0, .ref (a 0)), (1, .int x), (2, .int y)]) hx hb d_M_passes_172 hl (k := 7) rfl (nI_1 i) (by decide) rfl (fun ls hl => ?_)
            refine lv_goto (tgt := 15) hx hb d_M_passes_175 (by decide) ?_
            have e_b : m_passes_15 N K B Q x y (k + 1) i v3 = m_passes_15 N K B Q x y k (i + 1) (0 : Int32) := by rw [m_passes_15_S, if_pos c_32, if_pos c_70, if_pos c_117, if_pos c_148]
            rw [e_b]
            exact ih (i + 1) (by omega) (0 : Int32) ls (by first | exact Or.inl rfl | exact Or.inr rfl) (lv_sub hl [5, 6, 7, 1, 0] rfl)
        · refine lv_aload_n hx hb d_M_passes_120 rfl (lv_at hl 2 rfl) ?_
          refine va_get (D := D) (ci := 1) (v := .ref (a 11)) (C := R_M) (T := F_M) (N := 16) hx hb hts i_M hown hK hP 0 rfl rfl 14 (by decide) (hts _ fl_M_40) (fun _ h9 => h9) rfl d_M_passes_121 ?_
          refine lv_bipush (v := (30 : Int32)) hx hb d_M_passes_124 (by decide) ?_
          refine lv_aload_n hx hb d_M_passes_126 rfl (lv_at hl 2 rfl) ?_
          refine va_get (D := D) (ci := 1) (v := .ref (a 4)) (C := R_M) (T := F_M) (N := 16) hx hb hts i_M hown hK hP 0 rfl rfl 5 (by decide) (hts _ fl_M_19) (fun _ h9 => h9) rfl d_M_passes_127 ?_
          refine lv_iload hx hb d_M_passes_130 (lv_at hl 6 rfl) ?_
          refine x_ialdN (n := 10) hx hb hK hP 4 0 rfl rfl (by omega) (by omega) d_M_passes_132 ?_
          refine lv_imul hx hb d_M_passes_133 ?_
          refine lv_iload_n hx hb d_M_passes_134 rfl (lv_at hl 4 rfl) ?_
          refine lv_iadd hx hb d_M_passes_135 ?_
          refine va_zald (n := 900) hx hb hK hP 11 1 rfl rfl (ls_in hN (dr3_i hDr (by omega)) (h_y)) d_M_passes_136 ?_
          refine lv_if_eq (tgt := 144) hx hb d_M_passes_137 (by decide) (fun c_137 => ?_) (fun c_137 => ?_)
          · refine lv_iconst (v := (0 : Int32)) hx hb d_M_passes_144 (by decide) ?_
            refine lv_istore (lv' := [(7, .int (0 : Int32)), (6, .int (0 : Int32)), (5, .int (1 : Int32)), (0, .ref (a 0)), (1, .int x), (2, .int y), (3, .int v3), (4, .int (nI i))]) hx hb d_M_passes_145 hl (by decide) rfl (fun ls hl => ?_)
            refine lv_iload_n hx hb d_M_passes_147 rfl (lv_at hl 6 rfl) ?_
            refine lv_if_ne (tgt := 166) hx hb d_M_passes_148 (by decide) (fun c_148 => ?_) (fun c_148 => ?_)
            · refine lv_iconst (v := (1 : Int32)) hx hb d_M_passes_166 (by decide) ?_
              refine lv_goto (tgt := 171) hx hb d_M_passes_167 (by decide) ?_
              refine lv_istore_n (lv' := [(3, .int (1 : Int32)), (7, .int (0 : Int32)), (6, .int (0 : Int32)), (5, .int (1 : Int32)), (0, .ref (a 0)), (1, .int x), (2, .int y), (4, .int (nI i))]) hx hb d_M_passes_171 rfl hl (by decide) rfl (fun ls hl => ?_)
              refine lv_iinc (v := nI (i + 1)) (lv' := [(4, .int (nI (i + 1))), (3, .int (1 : Int32)), (7, .int (0 : Int32)), (6, .int (0 : Int32)), (5, .int (1 : Int32)), (0, .ref (a 0)), (1, .int x), (2, .int y)]) hx hb d_M_passes_172 hl (k := 7) rfl (nI_1 i) (by decide) rfl (fun ls hl => ?_)
              refine lv_goto (tgt := 15) hx hb d_M_passes_175 (by decide) ?_
              have e_b : m_passes_15 N K B Q x y (k + 1) i v3 = m_passes_15 N K B Q x y k (i + 1) (1 : Int32) := by rw [m_passes_15_S, if_pos c_32, if_pos c_70, if_neg c_117, if_pos c_137, if_neg c_148]
              rw [e_b]
              exact ih (i + 1) (by omega) (1 : Int32) ls (by first | exact Or.inl rfl | exact Or.inr rfl) (lv_sub hl [5, 6, 7, 1, 0] rfl)
            · refine lv_iload hx hb d_M_passes_151 (lv_at hl 2 rfl) ?_
              refine lv_if_eq (tgt := 170) hx hb d_M_passes_153 (by decide) (fun c_153 => absurd c_153 (by decide)) (fun c_153 => ?_)
              refine lv_iload hx hb d_M_passes_156 (lv_at hl 1 rfl) ?_
              refine lv_if_ne (tgt := 166) hx hb d_M_passes_158 (by decide) (fun c_158 => absurd c_158 (by decide)) (fun c_158 => ?_)
              refine lv_iload hx hb d_M_passes_161 (lv_at hl 0 rfl) ?_
              refine lv_if_eq (tgt := 170) hx hb d_M_passes_163 (by decide) (fun c_163 => ?_) (fun c_163 => absurd c_163 (by decide))
              refine lv_iconst (v := (0 : Int32)) hx hb d_M_passes_170 (by decide) ?_
              refine lv_istore_n (lv' := [(3, .int (0 : Int32)), (7, .int (0 : Int32)), (6, .int (0 : Int32)), (5, .int (1 : Int32)), (0, .ref (a 0)), (1, .int x), (2, .int y), (4, .int (nI i))]) hx hb d_M_passes_171 rfl hl (by decide) rfl (fun ls hl => ?_)
              refine lv_iinc (v := nI (i + 1)) (lv' := [(4, .int (nI (i + 1))), (3, .int (0 : Int32)), (7, .int (0 : Int32)), (6, .int (0 : Int32)), (5, .int (1 : Int32)), (0, .ref (a 0)), (1, .int x), (2, .int y)]) hx hb d_M_passes_172 hl (k := 7) rfl (nI_1 i) (by decide) rfl (fun ls hl => ?_)
              refine lv_goto (tgt := 15) hx hb d_M_passes_175 (by decide) ?_
              have e_b : m_passes_15 N K B Q x y (k + 1) i v3 = m_passes_15 N K B Q x y k (i + 1) (0 : Int32) := by rw [m_passes_15_S, if_pos c_32, if_pos c_70, if_neg c_117, if_pos c_137, if_pos c_148]
              rw [e_b]
              exact ih (i + 1) (by omega) (0 : Int32) ls (by first | exact Or.inl rfl | exact Or.inr rfl) (lv_sub hl [5, 6, 7, 1, 0] rfl)
          · refine lv_iconst (v := (1 : Int32)) hx hb d_M_passes_140 (by decide) ?_
            refine lv_goto (tgt := 145) hx hb d_M_passes_141 (by decide) ?_
            refine lv_istore (lv' := [(7, .int (1 : Int32)), (6, .int (0 : Int32)), (5, .int (1 : Int32)), (0, .ref (a 0)), (1, .int x), (2, .int y), (3, .int v3), (4, .int (nI i))]) hx hb d_M_passes_145 hl (by decide) rfl (fun ls hl => ?_)
            refine lv_iload_n hx hb d_M_passes_147 rfl (lv_at hl 6 rfl) ?_
            refine lv_if_ne (tgt := 166) hx hb d_M_passes_148 (by decide) (fun c_148 => ?_) (fun c_148 => ?_)
            · refine lv_iconst (v := (1 : Int32)) hx hb d_M_passes_166 (by decide) ?_
              refine lv_goto (tgt := 171) hx hb d_M_passes_167 (by decide) ?_
              refine lv_istore_n (lv' := [(3, .int (1 : Int32)), (7, .int (1 : Int32)), (6, .int (0 : Int32)), (5, .int (1 : Int32)), (0, .ref (a 0)), (1, .int x), (2, .int y), (4, .int (nI i))]) hx hb d_M_passes_171 rfl hl (by decide) rfl (fun ls hl => ?_)
              refine lv_iinc (v := nI (i + 1)) (lv' := [(4, .int (nI (i + 1))), (3, .int (1 : Int32)), (7, .int (1 : Int32)), (6, .int (0 : Int32)), (5, .int (1 : Int32)), (0, .ref (a 0)), (1, .int x), (2, .int y)]) hx hb d_M_passes_172 hl (k := 7) rfl (nI_1 i) (by decide) rfl (fun ls hl => ?_)
              refine lv_goto (tgt := 15) hx hb d_M_passes_175 (by decide) ?_
              have e_b : m_passes_15 N K B Q x y (k + 1) i v3 = m_passes_15 N K B Q x y k (i + 1) (1 : Int32) := by rw [m_passes_15_S, if_pos c_32, if_pos c_70, if_neg c_117, if_neg c_137, if_neg c_148]
              rw [e_b]
              exact ih (i + 1) (by omega) (1 : Int32) ls (by first | exact Or.inl rfl | exact Or.inr rfl) (lv_sub hl [5, 6, 7, 1, 0] rfl)
            · refine lv_iload hx hb d_M_passes_151 (lv_at hl 2 rfl) ?_
              refine lv_if_eq (tgt := 170) hx hb d_M_passes_153 (by decide) (fun c_153 => absurd c_153 (by decide)) (fun c_153 => ?_)
              refine lv_iload hx hb d_M_passes_156 (lv_at hl 1 rfl) ?_
              refine lv_if_ne (tgt := 166) hx hb d_M_passes_158 (by decide) (fun c_158 => absurd c_158 (by decide)) (fun c_158 => ?_)
              refine lv_iload hx hb d_M_passes_161 (lv_at hl 0 rfl) ?_
              refine lv_if_eq (tgt := 170) hx hb d_M_passes_163 (by decide) (fun c_163 => absurd c_163 (by decide)) (fun c_163 => ?_)
              refine lv_iconst (v := (1 : Int32)) hx hb d_M_passes_166 (by decide) ?_
              refine lv_goto (tgt := 171) hx hb d_M_passes_167 (by decide) ?_
              refine lv_istore_n (lv' := [(3, .int (1 : Int32)), (7, .int (1 : Int32)), (6, .int (0 : Int32)), (5, .int (1 : Int32)), (0, .ref (a 0)), (1, .int x), (2, .int y), (4, .int (nI i))]) hx hb d_M_passes_171 rfl hl (by decide) rfl (fun ls hl => ?_)
              refine lv_iinc (v := nI (i + 1)) (lv' := [(4, .int (nI (i + 1))), (3, .int (1 : Int32)), (7, .int (1 : Int32)), (6, .int (0 : Int32)), (5, .int (1 : Int32)), (0, .ref (a 0)), (1, .int x), (2, .int y)]) hx hb d_M_passes_172 hl (k := 7) rfl (nI_1 i) (by decide) rfl (fun ls hl => ?_)
              refine lv_goto (tgt := 15) hx hb d_M_passes_175 (by decide) ?_
              have e_b : m_passes_15 N K B Q x y (k + 1) i v3 = m_passes_15 N K B Q x y k (i + 1) (1 : Int32) := by rw [m_passes_15_S, if_pos c_32, if_pos c_70, if_neg c_117, if_neg c_137, if_pos c_148]
              rw [e_b]
              exact ih (i + 1) (by omega) (1 : Int32) ls (by first | exact Or.inl rfl | exact Or.inr rfl) (lv_sub hl [5, 6, 7, 1, 0] rfl)
      · refine lv_aload_n hx hb d_M_passes_73 rfl (lv_at hl 1 rfl) ?_
        refine va_get (D := D) (ci := 1) (v := .ref (a 11)) (C := R_M) (T := F_M) (N := 16) hx hb hts i_M hown hK hP 0 rfl rfl 14 (by decide) (hts _ fl_M_40) (fun _ h9 => h9) rfl d_M_passes_74 ?_
        refine lv_bipush (v := (30 : Int32)) hx hb d_M_passes_77 (by decide) ?_
        refine lv_aload_n hx hb d_M_passes_79 rfl (lv_at hl 1 rfl) ?_
        refine va_get (D := D) (ci := 1) (v := .ref (a 5)) (C := R_M) (T := F_M) (N := 16) hx hb hts i_M hown hK hP 0 rfl rfl 6 (by decide) (hts _ fl_M_22) (fun _ h9 => h9) rfl d_M_passes_80 ?_
        refine lv_iload hx hb d_M_passes_83 (lv_at hl 5 rfl) ?_
        refine x_ialdN (n := 10) hx hb hK hP 5 0 rfl rfl (by omega) (by omega) d_M_passes_85 ?_
        refine lv_imul hx hb d_M_passes_86 ?_
        refine lv_iload_n hx hb d_M_passes_87 rfl (lv_at hl 3 rfl) ?_
        refine lv_iadd hx hb d_M_passes_88 ?_
        refine va_zald (n := 900) hx hb hK hP 11 1 rfl rfl (ls_in hN (dr4_i hDr (by omega)) (h_y)) d_M_passes_89 ?_
        refine lv_if_eq (tgt := 97) hx hb d_M_passes_90 (by decide) (fun c_90 => ?_) (fun c_90 => ?_)
        · refine lv_iconst (v := (0 : Int32)) hx hb d_M_passes_97 (by decide) ?_
          refine lv_istore (lv' := [(6, .int (0 : Int32)), (5, .int (1 : Int32)), (0, .ref (a 0)), (1, .int x), (2, .int y), (3, .int v3), (4, .int (nI i))]) hx hb d_M_passes_98 hl (by decide) rfl (fun ls hl => ?_)
          refine lv_aload_n hx hb d_M_passes_100 rfl (lv_at hl 2 rfl) ?_
          refine va_get (D := D) (ci := 1) (v := .ref (a 11)) (C := R_M) (T := F_M) (N := 16) hx hb hts i_M hown hK hP 0 rfl rfl 14 (by decide) (hts _ fl_M_40) (fun _ h9 => h9) rfl d_M_passes_101 ?_
          refine lv_bipush (v := (30 : Int32)) hx hb d_M_passes_104 (by decide) ?_
          refine lv_iload_n hx hb d_M_passes_106 rfl (lv_at hl 3 rfl) ?_
          refine lv_imul hx hb d_M_passes_107 ?_
          refine lv_aload_n hx hb d_M_passes_108 rfl (lv_at hl 2 rfl) ?_
          refine va_get (D := D) (ci := 1) (v := .ref (a 5)) (C := R_M) (T := F_M) (N := 16) hx hb hts i_M hown hK hP 0 rfl rfl 6 (by decide) (hts _ fl_M_22) (fun _ h9 => h9) rfl d_M_passes_109 ?_
          refine lv_iload hx hb d_M_passes_112 (lv_at hl 6 rfl) ?_
          refine x_ialdN (n := 10) hx hb hK hP 5 0 rfl rfl (by omega) (by omega) d_M_passes_114 ?_
          refine lv_iadd hx hb d_M_passes_115 ?_
          refine va_zald (n := 900) hx hb hK hP 11 1 rfl rfl (ls_in hN (h_x) (dr4_i hDr (by omega))) d_M_passes_116 ?_
          refine lv_if_eq (tgt := 144) hx hb d_M_passes_117 (by decide) (fun c_117 => ?_) (fun c_117 => ?_)
          · refine lv_iconst (v := (0 : Int32)) hx hb d_M_passes_144 (by decide) ?_
            refine lv_istore (lv' := [(7, .int (0 : Int32)), (6, .int (0 : Int32)), (5, .int (1 : Int32)), (0, .ref (a 0)), (1, .int x), (2, .int y), (3, .int v3), (4, .int (nI i))]) hx hb d_M_passes_145 hl (by decide) rfl (fun ls hl => ?_)
            refine lv_iload_n hx hb d_M_passes_147 rfl (lv_at hl 6 rfl) ?_
            refine lv_if_ne (tgt := 166) hx hb d_M_passes_148 (by decide) (fun c_148 => ?_) (fun c_148 => ?_)
            · refine lv_iconst (v := (1 : Int32)) hx hb d_M_passes_166 (by decide) ?_
              refine lv_goto (tgt := 171) hx hb d_M_passes_167 (by decide) ?_
              refine lv_istore_n (lv' := [(3, .int (1 : Int32)), (7, .int (0 : Int32)), (6, .int (0 : Int32)), (5, .int (1 : Int32)), (0, .ref (a 0)), (1, .int x), (2, .int y), (4, .int (nI i))]) hx hb d_M_passes_171 rfl hl (by decide) rfl (fun ls hl => ?_)
              refine lv_iinc (v := nI (i + 1)) (lv' := [(4, .int (nI (i + 1))), (3, .int (1 : Int32)), (7, .int (0 : Int32)), (6, .int (0 : Int32)), (5, .int (1 : Int32)), (0, .ref (a 0)), (1, .int x), (2, .int y)]) hx hb d_M_passes_172 hl (k := 7) rfl (nI_1 i) (by decide) rfl (fun ls hl => ?_)
              refine lv_goto (tgt := 15) hx hb d_M_passes_175 (by decide) ?_
              have e_b : m_passes_15 N K B Q x y (k + 1) i v3 = m_passes_15 N K B Q x y k (i + 1) (1 : Int32) := by rw [m_passes_15_S, if_pos c_32, if_neg c_70, if_pos c_90, if_pos c_117, if_neg c_148]
              rw [e_b]
              exact ih (i + 1) (by omega) (1 : Int32) ls (by first | exact Or.inl rfl | exact Or.inr rfl) (lv_sub hl [5, 6, 7, 1, 0] rfl)
            · refine lv_iload hx hb d_M_passes_151 (lv_at hl 2 rfl) ?_
              refine lv_if_eq (tgt := 170) hx hb d_M_passes_153 (by decide) (fun c_153 => absurd c_153 (by decide)) (fun c_153 => ?_)
              refine lv_iload hx hb d_M_passes_156 (lv_at hl 1 rfl) ?_
              refine lv_if_ne (tgt := 166) hx hb d_M_passes_158 (by decide) (fun c_158 => absurd c_158 (by decide)) (fun c_158 => ?_)
              refine lv_iload hx hb d_M_passes_161 (lv_at hl 0 rfl) ?_
              refine lv_if_eq (tgt := 170) hx hb d_M_passes_163 (by decide) (fun c_163 => ?_) (fun c_163 => absurd c_163 (by decide))
              refine lv_iconst (v := (0 : Int32)) hx hb d_M_passes_170 (by decide) ?_
              refine lv_istore_n (lv' := [(3, .int (0 : Int32)), (7, .int (0 : Int32)), (6, .int (0 : Int32)), (5, .int (1 : Int32)), (0, .ref (a 0)), (1, .int x), (2, .int y), (4, .int (nI i))]) hx hb d_M_passes_171 rfl hl (by decide) rfl (fun ls hl => ?_)
              refine lv_iinc (v := nI (i + 1)) (lv' := [(4, .int (nI (i + 1))), (3, .int (0 : Int32)), (7, .int (0 : Int32)), (6, .int (0 : Int32)), (5, .int (1 : Int32)), (0, .ref (a 0)), (1, .int x), (2, .int y)]) hx hb d_M_passes_172 hl (k := 7) rfl (nI_1 i) (by decide) rfl (fun ls hl => ?_)
              refine lv_goto (tgt := 15) hx hb d_M_passes_175 (by decide) ?_
              have e_b : m_passes_15 N K B Q x y (k + 1) i v3 = m_passes_15 N K B Q x y k (i + 1) (0 : Int32) := by rw [m_passes_15_S, if_pos c_32, if_neg c_70, if_pos c_90, if_pos c_117, if_pos c_148]
              rw [e_b]
              exact ih (i + 1) (by omega) (0 : Int32) ls (by first | exact Or.inl rfl | exact Or.inr rfl) (lv_sub hl [5, 6, 7, 1, 0] rfl)
          · refine lv_aload_n hx hb d_M_passes_120 rfl (lv_at hl 2 rfl) ?_
            refine va_get (D := D) (ci := 1) (v := .ref (a 11)) (C := R_M) (T := F_M) (N := 16) hx hb hts i_M hown hK hP 0 rfl rfl 14 (by decide) (hts _ fl_M_40) (fun _ h9 => h9) rfl d_M_passes_121 ?_
            refine lv_bipush (v := (30 : Int32)) hx hb d_M_passes_124 (by decide) ?_
            refine lv_aload_n hx hb d_M_passes_126 rfl (lv_at hl 2 rfl) ?_
            refine va_get (D := D) (ci := 1) (v := .ref (a 4)) (C := R_M) (T := F_M) (N := 16) hx hb hts i_M hown hK hP 0 rfl rfl 5 (by decide) (hts _ fl_M_19) (fun _ h9 => h9) rfl d_M_passes_127 ?_
            refine lv_iload hx hb d_M_passes_130 (lv_at hl 6 rfl) ?_
            refine x_ialdN (n := 10) hx hb hK hP 4 0 rfl rfl (by omega) (by omega) d_M_passes_132 ?_
            refine lv_imul hx hb d_M_passes_133 ?_
            refine lv_iload_n hx hb d_M_passes_134 rfl (lv_at hl 4 rfl) ?_
            refine lv_iadd hx hb d_M_passes_135 ?_
            refine va_zald (n := 900) hx hb hK hP 11 1 rfl rfl (ls_in hN (dr3_i hDr (by omega)) (h_y)) d_M_passes_136 ?_
            refine lv_if_eq (tgt := 144) hx hb d_M_passes_137 (by decide) (fun c_137 => ?_) (fun c_137 => ?_)
            · refine lv_iconst (v := (0 : Int32)) hx hb d_M_passes_144 (by decide) ?_
              refine lv_istore (lv' := [(7, .int (0 : Int32)), (6, .int (0 : Int32)), (5, .int (1 : Int32)), (0, .ref (a 0)), (1, .int x), (2, .int y), (3, .int v3), (4, .int (nI i))]) hx hb d_M_passes_145 hl (by decide) rfl (fun ls hl => ?_)
              refine lv_iload_n hx hb d_M_passes_147 rfl (lv_at hl 6 rfl) ?_
              refine lv_if_ne (tgt := 166) hx hb d_M_passes_148 (by decide) (fun c_148 => ?_) (fun c_148 => ?_)
              · refine lv_iconst (v := (1 : Int32)) hx hb d_M_passes_166 (by decide) ?_
                refine lv_goto (tgt := 171) hx hb d_M_passes_167 (by decide) ?_
                refine lv_istore_n (lv' := [(3, .int (1 : Int32)), (7, .int (0 : Int32)), (6, .int (0 : Int32)), (5, .int (1 : Int32)), (0, .ref (a 0)), (1, .int x), (2, .int y), (4, .int (nI i))]) hx hb d_M_passes_171 rfl hl (by decide) rfl (fun ls hl => ?_)
                refine lv_iinc (v := nI (i + 1)) (lv' := [(4, .int (nI (i + 1))), (3, .int (1 : Int32)), (7, .int (0 : Int32)), (6, .int (0 : Int32)), (5, .int (1 : Int32)), (0, .ref (a 0)), (1, .int x), (2, .int y)]) hx hb d_M_passes_172 hl (k := 7) rfl (nI_1 i) (by decide) rfl (fun ls hl => ?_)
                refine lv_goto (tgt := 15) hx hb d_M_passes_175 (by decide) ?_
                have e_b : m_passes_15 N K B Q x y (k + 1) i v3 = m_passes_15 N K B Q x y k (i + 1) (1 : Int32) := by rw [m_passes_15_S, if_pos c_32, if_neg c_70, if_pos c_90, if_neg c_117, if_pos c_137, if_neg c_148]
                rw [e_b]
                exact ih (i + 1) (by omega) (1 : Int32) ls (by first | exact Or.inl rfl | exact Or.inr rfl) (lv_sub hl [5, 6, 7, 1, 0] rfl)
              · refine lv_iload hx hb d_M_passes_151 (lv_at hl 2 rfl) ?_
                refine lv_if_eq (tgt := 170) hx hb d_M_passes_153 (by decide) (fun c_153 => absurd c_153 (by decide)) (fun c_153 => ?_)
                refine lv_iload hx hb d_M_passes_156 (lv_at hl 1 rfl) ?_
                refine lv_if_ne (tgt := 166) hx hb d_M_passes_158 (by decide) (fun c_158 => absurd c_158 (by decide)) (fun c_158 => ?_)
                refine lv_iload hx hb d_M_passes_161 (lv_at hl 0 rfl) ?_
                refine lv_if_eq (tgt := 170) hx hb d_M_passes_163 (by decide) (fun c_163 => ?_) (fun c_163 => absurd c_163 (by decide))
                refine lv_iconst (v := (0 : Int32)) hx hb d_M_passes_170 (by decide) ?_
                refine lv_istore_n (lv' := [(3, .int (0 : Int32)), (7, .int (0 : Int32)), (6, .int (0 : Int32)), (5, .int (1 : Int32)), (0, .ref (a 0)), (1, .int x), (2, .int y), (4, .int (nI i))]) hx hb d_M_passes_171 rfl hl (by decide) rfl (fun ls hl => ?_)
                refine lv_iinc (v := nI (i + 1)) (lv' := [(4, .int (nI (i + 1))), (3, .int (0 : Int32)), (7, .int (0 : Int32)), (6, .int (0 : Int32)), (5, .int (1 : Int32)), (0, .ref (a 0)), (1, .int x), (2, .int y)]) hx hb d_M_passes_172 hl (k := 7) rfl (nI_1 i) (by decide) rfl (fun ls hl => ?_)
                refine lv_goto (tgt := 15) hx hb d_M_passes_175 (by decide) ?_
                have e_b : m_passes_15 N K B Q x y (k + 1) i v3 = m_passes_15 N K B Q x y k (i + 1) (0 : Int32) := by rw [m_passes_15_S, if_pos c_32, if_neg c_70, if_pos c_90, if_neg c_117, if_pos c_137, if_pos c_148]
                rw [e_b]
                exact ih (i + 1) (by omega) (0 : Int32) ls (by first | exact Or.inl rfl | exact Or.inr rfl) (lv_sub hl [5, 6, 7, 1, 0] rfl)
            · refine lv_iconst (v := (1 : Int32)) hx hb d_M_passes_140 (by decide) ?_
              refine lv_goto (tgt := 145) hx hb d_M_passes_141 (by decide) ?_
              refine lv_istore (lv' := [(7, .int (1 : Int32)), (6, .int (0 : Int32)), (5, .int (1 : Int32)), (0, .ref (a 0)), (1, .int x), (2, .int y), (3, .int v3), (4, .int (nI i))]) hx hb d_M_passes_145 hl (by decide) rfl (fun ls hl => ?_)
              refine lv_iload_n hx hb d_M_passes_147 rfl (lv_at hl 6 rfl) ?_
              refine lv_if_ne (tgt := 166) hx hb d_M_passes_148 (by decide) (fun c_148 => ?_) (fun c_148 => ?_)
              · refine lv_iconst (v := (1 : Int32)) hx hb d_M_passes_166 (by decide) ?_
                refine lv_goto (tgt := 171) hx hb d_M_passes_167 (by decide) ?_
                refine lv_istore_n (lv' := [(3, .int (1 : Int32)), (7, .int (1 : Int32)), (6, .int (0 : Int32)), (5, .int (1 : Int32)), (0, .ref (a 0)), (1, .int x), (2, .int y), (4, .int (nI i))]) hx hb d_M_passes_171 rfl hl (by decide) rfl (fun ls hl => ?_)
                refine lv_iinc (v := nI (i + 1)) (lv' := [(4, .int (nI (i + 1))), (3, .int (1 : Int32)), (7, .int (1 : Int32)), (6, .int (0 : Int32)), (5, .int (1 : Int32)), (0, .ref (a 0)), (1, .int x), (2, .int y)]) hx hb d_M_passes_172 hl (k := 7) rfl (nI_1 i) (by decide) rfl (fun ls hl => ?_)
                refine lv_goto (tgt := 15) hx hb d_M_passes_175 (by decide) ?_
                have e_b : m_passes_15 N K B Q x y (k + 1) i v3 = m_passes_15 N K B Q x y k (i + 1) (1 : Int32) := by rw [m_passes_15_S, if_pos c_32, if_neg c_70, if_pos c_90, if_neg c_117, if_neg c_137, if_neg c_148]
                rw [e_b]
                exact ih (i + 1) (by omega) (1 : Int32) ls (by first | exact Or.inl rfl | exact Or.inr rfl) (lv_sub hl [5, 6, 7, 1, 0] rfl)
              · refine lv_iload hx hb d_M_passes_151 (lv_at hl 2 rfl) ?_
                refine lv_if_eq (tgt := 170) hx hb d_M_passes_153 (by decide) (fun c_153 => absurd c_153 (by decide)) (fun c_153 => ?_)
                refine lv_iload hx hb d_M_passes_156 (lv_at hl 1 rfl) ?_
                refine lv_if_ne (tgt := 166) hx hb d_M_passes_158 (by decide) (fun c_158 => absurd c_158 (by decide)) (fun c_158 => ?_)
                refine lv_iload hx hb d_M_passes_161 (lv_at hl 0 rfl) ?_
                refine lv_if_eq (tgt := 170) hx hb d_M_passes_163 (by decide) (fun c_163 => absurd c_163 (by decide)) (fun c_163 => ?_)
                refine lv_iconst (v := (1 : Int32)) hx hb d_M_passes_166 (by decide) ?_
                refine lv_goto (tgt := 171) hx hb d_M_passes_167 (by decide) ?_
                refine lv_istore_n (lv' := [(3, .int (1 : Int32)), (7, .int (1 : Int32)), (6, .int (0 : Int32)), (5, .int (1 : Int32)), (0, .ref (a 0)), (1, .int x), (2, .int y), (4, .int (nI i))]) hx hb d_M_passes_171 rfl hl (by decide) rfl (fun ls hl => ?_)
                refine lv_iinc (v := nI (i + 1)) (lv' := [(4, .int (nI (i + 1))), (3, .int (1 : Int32)), (7, .int (1 : Int32)), (6, .int (0 : Int32)), (5, .int (1 : Int32)), (0, .ref (a 0)), (1, .int x), (2, .int y)]) hx hb d_M_passes_172 hl (k := 7) rfl (nI_1 i) (by decide) rfl (fun ls hl => ?_)
                refine lv_goto (tgt := 15) hx hb d_M_passes_175 (by decide) ?_
                have e_b : m_passes_15 N K B Q x y (k + 1) i v3 = m_passes_15 N K B Q x y k (i + 1) (1 : Int32) := by rw [m_passes_15_S, if_pos c_32, if_neg c_70, if_pos c_90, if_neg c_117, if_neg c_137, if_pos c_148]
                rw [e_b]
                exact ih (i + 1) (by omega) (1 : Int32) ls (by first | exact Or.inl rfl | exact Or.inr rfl) (lv_sub hl [5, 6, 7, 1, 0] rfl)
        · refine lv_iconst (v := (1 : Int32)) hx hb d_M_passes_93 (by decide) ?_
          refine lv_goto (tgt := 98) hx hb d_M_passes_94 (by decide) ?_
          refine lv_istore (lv' := [(6, .int (1 : Int32)), (5, .int (1 : Int32)), (0, .ref (a 0)), (1, .int x), (2, .int y), (3, .int v3), (4, .int (nI i))]) hx hb d_M_passes_98 hl (by decide) rfl (fun ls hl => ?_)
          refine lv_aload_n hx hb d_M_passes_100 rfl (lv_at hl 2 rfl) ?_
          refine va_get (D := D) (ci := 1) (v := .ref (a 11)) (C := R_M) (T := F_M) (N := 16) hx hb hts i_M hown hK hP 0 rfl rfl 14 (by decide) (hts _ fl_M_40) (fun _ h9 => h9) rfl d_M_passes_101 ?_
          refine lv_bipush (v := (30 : Int32)) hx hb d_M_passes_104 (by decide) ?_
          refine lv_iload_n hx hb d_M_passes_106 rfl (lv_at hl 3 rfl) ?_
          refine lv_imul hx hb d_M_passes_107 ?_
          refine lv_aload_n hx hb d_M_passes_108 rfl (lv_at hl 2 rfl) ?_
          refine va_get (D := D) (ci := 1) (v := .ref (a 5)) (C := R_M) (T := F_M) (N := 16) hx hb hts i_M hown hK hP 0 rfl rfl 6 (by decide) (hts _ fl_M_22) (fun _ h9 => h9) rfl d_M_passes_109 ?_
          refine lv_iload hx hb d_M_passes_112 (lv_at hl 6 rfl) ?_
          refine x_ialdN (n := 10) hx hb hK hP 5 0 rfl rfl (by omega) (by omega) d_M_passes_114 ?_
          refine lv_iadd hx hb d_M_passes_115 ?_
          refine va_zald (n := 900) hx hb hK hP 11 1 rfl rfl (ls_in hN (h_x) (dr4_i hDr (by omega))) d_M_passes_116 ?_
          refine lv_if_eq (tgt := 144) hx hb d_M_passes_117 (by decide) (fun c_117 => ?_) (fun c_117 => ?_)
          · refine lv_iconst (v := (0 : Int32)) hx hb d_M_passes_144 (by decide) ?_
            refine lv_istore (lv' := [(7, .int (0 : Int32)), (6, .int (1 : Int32)), (5, .int (1 : Int32)), (0, .ref (a 0)), (1, .int x), (2, .int y), (3, .int v3), (4, .int (nI i))]) hx hb d_M_passes_145 hl (by decide) rfl (fun ls hl => ?_)
            refine lv_iload_n hx hb d_M_passes_147 rfl (lv_at hl 6 rfl) ?_
            refine lv_if_ne (tgt := 166) hx hb d_M_passes_148 (by decide) (fun c_148 => ?_) (fun c_148 => ?_)
            · refine lv_iconst (v := (1 : Int32)) hx hb d_M_passes_166 (by decide) ?_
              refine lv_goto (tgt := 171) hx hb d_M_passes_167 (by decide) ?_
              refine lv_istore_n (lv' := [(3, .int (1 : Int32)), (7, .int (0 : Int32)), (6, .int (1 : Int32)), (5, .int (1 : Int32)), (0, .ref (a 0)), (1, .int x), (2, .int y), (4, .int (nI i))]) hx hb d_M_passes_171 rfl hl (by decide) rfl (fun ls hl => ?_)
              refine lv_iinc (v := nI (i + 1)) (lv' := [(4, .int (nI (i + 1))), (3, .int (1 : Int32)), (7, .int (0 : Int32)), (6, .int (1 : Int32)), (5, .int (1 : Int32)), (0, .ref (a 0)), (1, .int x), (2, .int y)]) hx hb d_M_passes_172 hl (k := 7) rfl (nI_1 i) (by decide) rfl (fun ls hl => ?_)
              refine lv_goto (tgt := 15) hx hb d_M_passes_175 (by decide) ?_
              have e_b : m_passes_15 N K B Q x y (k + 1) i v3 = m_passes_15 N K B Q x y k (i + 1) (1 : Int32) := by rw [m_passes_15_S, if_pos c_32, if_neg c_70, if_neg c_90, if_pos c_117, if_neg c_148]
              rw [e_b]
              exact ih (i + 1) (by omega) (1 : Int32) ls (by first | exact Or.inl rfl | exact Or.inr rfl) (lv_sub hl [5, 6, 7, 1, 0] rfl)
            · refine lv_iload hx hb d_M_passes_151 (lv_at hl 2 rfl) ?_
              refine lv_if_eq (tgt := 170) hx hb d_M_passes_153 (by decide) (fun c_153 => absurd c_153 (by decide)) (fun c_153 => ?_)
              refine lv_iload hx hb d_M_passes_156 (lv_at hl 1 rfl) ?_
              refine lv_if_ne (tgt := 166) hx hb d_M_passes_158 (by decide) (fun c_158 => ?_) (fun c_158 => absurd c_158 (by decide))
              refine lv_iconst (v := (1 : Int32)) hx hb d_M_passes_166 (by decide) ?_
              refine lv_goto (tgt := 171) hx hb d_M_passes_167 (by decide) ?_
              refine lv_istore_n (lv' := [(3, .int (1 : Int32)), (7, .int (0 : Int32)), (6, .int (1 : Int32)), (5, .int (1 : Int32)), (0, .ref (a 0)), (1, .int x), (2, .int y), (4, .int (nI i))]) hx hb d_M_passes_171 rfl hl (by decide) rfl (fun ls hl => ?_)
              refine lv_iinc (v := nI (i + 1)) (lv' := [(4, .int (nI (i + 1))), (3, .int (1 : Int32)), (7, .int (0 : Int32)), (6, .int (1 : Int32)), (5, .int (1 : Int32)), (0, .ref (a 0)), (1, .int x), (2, .int y)]) hx hb d_M_passes_172 hl (k := 7) rfl (nI_1 i) (by decide) rfl (fun ls hl => ?_)
              refine lv_goto (tgt := 15) hx hb d_M_passes_175 (by decide) ?_
              have e_b : m_passes_15 N K B Q x y (k + 1) i v3 = m_passes_15 N K B Q x y k (i + 1) (1 : Int32) := by rw [m_passes_15_S, if_pos c_32, if_neg c_70, if_neg c_90, if_pos c_117, if_pos c_148]
              rw [e_b]
              exact ih (i + 1) (by omega) (1 : Int32) ls (by first | exact Or.inl rfl | exact Or.inr rfl) (lv_sub hl [5, 6, 7, 1, 0] rfl)
          · refine lv_aload_n hx hb d_M_passes_120 rfl (lv_at hl 2 rfl) ?_
            refine va_get (D := D) (ci := 1) (v := .ref (a 11)) (C := R_M) (T := F_M) (N := 16) hx hb hts i_M hown hK hP 0 rfl rfl 14 (by decide) (hts _ fl_M_40) (fun _ h9 => h9) rfl d_M_passes_121 ?_
            refine lv_bipush (v := (30 : Int32)) hx hb d_M_passes_124 (by decide) ?_
            refine lv_aload_n hx hb d_M_passes_126 rfl (lv_at hl 2 rfl) ?_
            refine va_get (D := D) (ci := 1) (v := .ref (a 4)) (C := R_M) (T := F_M) (N := 16) hx hb hts i_M hown hK hP 0 rfl rfl 5 (by decide) (hts _ fl_M_19) (fun _ h9 => h9) rfl d_M_passes_127 ?_
            refine lv_iload hx hb d_M_passes_130 (lv_at hl 6 rfl) ?_
            refine x_ialdN (n := 10) hx hb hK hP 4 0 rfl rfl (by omega) (by omega) d_M_passes_132 ?_
            refine lv_imul hx hb d_M_passes_133 ?_
            refine lv_iload_n hx hb d_M_passes_134 rfl (lv_at hl 4 rfl) ?_
            refine lv_iadd hx hb d_M_passes_135 ?_
            refine va_zald (n := 900) hx hb hK hP 11 1 rfl rfl (ls_in hN (dr3_i hDr (by omega)) (h_y)) d_M_passes_136 ?_
            refine lv_if_eq (tgt := 144) hx hb d_M_passes_137 (by decide) (fun c_137 => ?_) (fun c_137 => ?_)
            · refine lv_iconst (v := (0 : Int32)) hx hb d_M_passes_144 (by decide) ?_
              refine lv_istore (lv' := [(7, .int (0 : Int32)), (6, .int (1 : Int32)), (5, .int (1 : Int32)), (0, .ref (a 0)), (1, .int x), (2, .int y), (3, .int v3), (4, .int (nI i))]) hx hb d_M_passes_145 hl (by decide) rfl (fun ls hl => ?_)
              refine lv_iload_n hx hb d_M_passes_147 rfl (lv_at hl 6 rfl) ?_
              refine lv_if_ne (tgt := 166) hx hb d_M_passes_148 (by decide) (fun c_148 => ?_) (fun c_148 => ?_)
              · refine lv_iconst (v := (1 : Int32)) hx hb d_M_passes_166 (by decide) ?_
                refine lv_goto (tgt := 171) hx hb d_M_passes_167 (by decide) ?_
                refine lv_istore_n (lv' := [(3, .int (1 : Int32)), (7, .int (0 : Int32)), (6, .int (1 : Int32)), (5, .int (1 : Int32)), (0, .ref (a 0)), (1, .int x), (2, .int y), (4, .int (nI i))]) hx hb d_M_passes_171 rfl hl (by decide) rfl (fun ls hl => ?_)
                refine lv_iinc (v := nI (i + 1)) (lv' := [(4, .int (nI (i + 1))), (3, .int (1 : Int32)), (7, .int (0 : Int32)), (6, .int (1 : Int32)), (5, .int (1 : Int32)), (0, .ref (a 0)), (1, .int x), (2, .int y)]) hx hb d_M_passes_172 hl (k := 7) rfl (nI_1 i) (by decide) rfl (fun ls hl => ?_)
                refine lv_goto (tgt := 15) hx hb d_M_passes_175 (by decide) ?_
                have e_b : m_passes_15 N K B Q x y (k + 1) i v3 = m_passes_15 N K B Q x y k (i + 1) (1 : Int32) := by rw [m_passes_15_S, if_pos c_32, if_neg c_70, if_neg c_90, if_neg c_117, if_pos c_137, if_neg c_148]
                rw [e_b]
                exact ih (i + 1) (by omega) (1 : Int32) ls (by first | exact Or.inl rfl | exact Or.inr rfl) (lv_sub hl [5, 6, 7, 1, 0] rfl)
              · refine lv_iload hx hb d_M_passes_151 (lv_at hl 2 rfl) ?_
                refine lv_if_eq (tgt := 170) hx hb d_M_passes_153 (by decide) (fun c_153 => absurd c_153 (by decide)) (fun c_153 => ?_)
                refine lv_iload hx hb d_M_passes_156 (lv_at hl 1 rfl) ?_
                refine lv_if_ne (tgt := 166) hx hb d_M_passes_158 (by decide) (fun c_158 => ?_) (fun c_158 => absurd c_158 (by decide))
                refine lv_iconst (v := (1 : Int32)) hx hb d_M_passes_166 (by decide) ?_
                refine lv_goto (tgt := 171) hx hb d_M_passes_167 (by decide) ?_
                refine lv_istore_n (lv' := [(3, .int (1 : Int32)), (7, .int (0 : Int32)), (6, .int (1 : Int32)), (5, .int (1 : Int32)), (0, .ref (a 0)), (1, .int x), (2, .int y), (4, .int (nI i))]) hx hb d_M_passes_171 rfl hl (by decide) rfl (fun ls hl => ?_)
                refine lv_iinc (v := nI (i + 1)) (lv' := [(4, .int (nI (i + 1))), (3, .int (1 : Int32)), (7, .int (0 : Int32)), (6, .int (1 : Int32)), (5, .int (1 : Int32)), (0, .ref (a 0)), (1, .int x), (2, .int y)]) hx hb d_M_passes_172 hl (k := 7) rfl (nI_1 i) (by decide) rfl (fun ls hl => ?_)
                refine lv_goto (tgt := 15) hx hb d_M_passes_175 (by decide) ?_
                have e_b : m_passes_15 N K B Q x y (k + 1) i v3 = m_passes_15 N K B Q x y k (i + 1) (1 : Int32) := by rw [m_passes_15_S, if_pos c_32, if_neg c_70, if_neg c_90, if_neg c_117, if_pos c_137, if_pos c_148]
                rw [e_b]
                exact ih (i + 1) (by omega) (1 : Int32) ls (by first | exact Or.inl rfl | exact Or.inr rfl) (lv_sub hl [5, 6, 7, 1, 0] rfl)
            · refine lv_iconst (v := (1 : Int32)) hx hb d_M_passes_140 (by decide) ?_
              refine lv_goto (tgt := 145) hx hb d_M_passes_141 (by decide) ?_
              refine lv_istore (lv' := [(7, .int (1 : Int32)), (6, .int (1 : Int32)), (5, .int (1 : Int32)), (0, .ref (a 0)), (1, .int x), (2, .int y), (3, .int v3), (4, .int (nI i))]) hx hb d_M_passes_145 hl (by decide) rfl (fun ls hl => ?_)
              refine lv_iload_n hx hb d_M_passes_147 rfl (lv_at hl 6 rfl) ?_
              refine lv_if_ne (tgt := 166) hx hb d_M_passes_148 (by decide) (fun c_148 => ?_) (fun c_148 => ?_)
              · refine lv_iconst (v := (1 : Int32)) hx hb d_M_passes_166 (by decide) ?_
                refine lv_goto (tgt := 171) hx hb d_M_passes_167 (by decide) ?_
                refine lv_istore_n (lv' := [(3, .int (1 : Int32)), (7, .int (1 : Int32)), (6, .int (1 : Int32)), (5, .int (1 : Int32)), (0, .ref (a 0)), (1, .int x), (2, .int y), (4, .int (nI i))]) hx hb d_M_passes_171 rfl hl (by decide) rfl (fun ls hl => ?_)
                refine lv_iinc (v := nI (i + 1)) (lv' := [(4, .int (nI (i + 1))), (3, .int (1 : Int32)), (7, .int (1 : Int32)), (6, .int (1 : Int32)), (5, .int (1 : Int32)), (0, .ref (a 0)), (1, .int x), (2, .int y)]) hx hb d_M_passes_172 hl (k := 7) rfl (nI_1 i) (by decide) rfl (fun ls hl => ?_)
                refine lv_goto (tgt := 15) hx hb d_M_passes_175 (by decide) ?_
                have e_b : m_passes_15 N K B Q x y (k + 1) i v3 = m_passes_15 N K B Q x y k (i + 1) (1 : Int32) := by rw [m_passes_15_S, if_pos c_32, if_neg c_70, if_neg c_90, if_neg c_117, if_neg c_137, if_neg c_148]
                rw [e_b]
                exact ih (i + 1) (by omega) (1 : Int32) ls (by first | exact Or.inl rfl | exact Or.inr rfl) (lv_sub hl [5, 6, 7, 1, 0] rfl)
              · refine lv_iload hx hb d_M_passes_151 (lv_at hl 2 rfl) ?_
                refine lv_if_eq (tgt := 170) hx hb d_M_passes_153 (by decide) (fun c_153 => absurd c_153 (by decide)) (fun c_153 => ?_)
                refine lv_iload hx hb d_M_passes_156 (lv_at hl 1 rfl) ?_
                refine lv_if_ne (tgt := 166) hx hb d_M_passes_158 (by decide) (fun c_158 => ?_) (fun c_158 => absurd c_158 (by decide))
                refine lv_iconst (v := (1 : Int32)) hx hb d_M_passes_166 (by decide) ?_
                refine lv_goto (tgt := 171) hx hb d_M_passes_167 (by decide) ?_
                refine lv_istore_n (lv' := [(3, .int (1 : Int32)), (7, .int (1 : Int32)), (6, .int (1 : Int32)), (5, .int (1 : Int32)), (0, .ref (a 0)), (1, .int x), (2, .int y), (4, .int (nI i))]) hx hb d_M_passes_171 rfl hl (by decide) rfl (fun ls hl => ?_)
                refine lv_iinc (v := nI (i + 1)) (lv' := [(4, .int (nI (i + 1))), (3, .int (1 : Int32)), (7, .int (1 : Int32)), (6, .int (1 : Int32)), (5, .int (1 : Int32)), (0, .ref (a 0)), (1, .int x), (2, .int y)]) hx hb d_M_passes_172 hl (k := 7) rfl (nI_1 i) (by decide) rfl (fun ls hl => ?_)
                refine lv_goto (tgt := 15) hx hb d_M_passes_175 (by decide) ?_
                have e_b : m_passes_15 N K B Q x y (k + 1) i v3 = m_passes_15 N K B Q x y k (i + 1) (1 : Int32) := by rw [m_passes_15_S, if_pos c_32, if_neg c_70, if_neg c_90, if_neg c_117, if_neg c_137, if_pos c_148]
                rw [e_b]
                exact ih (i + 1) (by omega) (1 : Int32) ls (by first | exact Or.inl rfl | exact Or.inr rfl) (lv_sub hl [5, 6, 7, 1, 0] rfl)
    · refine lv_aload_n hx hb d_M_passes_35 rfl (lv_at hl 0 rfl) ?_
      refine va_get (D := D) (ci := 1) (v := .ref (a 7)) (C := R_M) (T := F_M) (N := 16) hx hb hts i_M hown hK hP 0 rfl rfl 8 (by decide) (hts _ fl_M_28) (fun _ h9 => h9) rfl d_M_passes_36 ?_
      refine lv_iload hx hb d_M_passes_39 (lv_at hl 4 rfl) ?_
      refine x_ialdN (n := 10) hx hb hK hP 7 0 rfl rfl (by omega) (by omega) d_M_passes_41 ?_
      refine lv_iconst (v := (1 : Int32)) hx hb d_M_passes_42 (by decide) ?_
      refine lv_icmp_ne (tgt := 50) hx hb d_M_passes_43 (by decide) (fun c_43 => ?_) (fun c_43 => ?_)
      · refine lv_iconst (v := (0 : Int32)) hx hb d_M_passes_50 (by decide) ?_
        refine lv_istore (lv' := [(5, .int (0 : Int32)), (0, .ref (a 0)), (1, .int x), (2, .int y), (3, .int v3), (4, .int (nI i))]) hx hb d_M_passes_51 hl (by decide) rfl (fun ls hl => ?_)
        refine lv_aload_n hx hb d_M_passes_53 rfl (lv_at hl 1 rfl) ?_
        refine va_get (D := D) (ci := 1) (v := .ref (a 11)) (C := R_M) (T := F_M) (N := 16) hx hb hts i_M hown hK hP 0 rfl rfl 14 (by decide) (hts _ fl_M_40) (fun _ h9 => h9) rfl d_M_passes_54 ?_
        refine lv_bipush (v := (30 : Int32)) hx hb d_M_passes_57 (by decide) ?_
        refine lv_iload_n hx hb d_M_passes_59 rfl (lv_at hl 2 rfl) ?_
        refine lv_imul hx hb d_M_passes_60 ?_
        refine lv_aload_n hx hb d_M_passes_61 rfl (lv_at hl 1 rfl) ?_
        refine va_get (D := D) (ci := 1) (v := .ref (a 4)) (C := R_M) (T := F_M) (N := 16) hx hb hts i_M hown hK hP 0 rfl rfl 5 (by decide) (hts _ fl_M_19) (fun _ h9 => h9) rfl d_M_passes_62 ?_
        refine lv_iload hx hb d_M_passes_65 (lv_at hl 5 rfl) ?_
        refine x_ialdN (n := 10) hx hb hK hP 4 0 rfl rfl (by omega) (by omega) d_M_passes_67 ?_
        refine lv_iadd hx hb d_M_passes_68 ?_
        refine va_zald (n := 900) hx hb hK hP 11 1 rfl rfl (ls_in hN (h_x) (dr3_i hDr (by omega))) d_M_passes_69 ?_
        refine lv_if_eq (tgt := 97) hx hb d_M_passes_70 (by decide) (fun c_70 => ?_) (fun c_70 => ?_)
        · refine lv_iconst (v := (0 : Int32)) hx hb d_M_passes_97 (by decide) ?_
          refine lv_istore (lv' := [(6, .int (0 : Int32)), (5, .int (0 : Int32)), (0, .ref (a 0)), (1, .int x), (2, .int y), (3, .int v3), (4, .int (nI i))]) hx hb d_M_passes_98 hl (by decide) rfl (fun ls hl => ?_)
          refine lv_aload_n hx hb d_M_passes_100 rfl (lv_at hl 2 rfl) ?_
          refine va_get (D := D) (ci := 1) (v := .ref (a 11)) (C := R_M) (T := F_M) (N := 16) hx hb hts i_M hown hK hP 0 rfl rfl 14 (by decide) (hts _ fl_M_40) (fun _ h9 => h9) rfl d_M_passes_101 ?_
          refine lv_bipush (v := (30 : Int32)) hx hb d_M_passes_104 (by decide) ?_
          refine lv_iload_n hx hb d_M_passes_106 rfl (lv_at hl 3 rfl) ?_
          refine lv_imul hx hb d_M_passes_107 ?_
          refine lv_aload_n hx hb d_M_passes_108 rfl (lv_at hl 2 rfl) ?_
          refine va_get (D := D) (ci := 1) (v := .ref (a 5)) (C := R_M) (T := F_M) (N := 16) hx hb hts i_M hown hK hP 0 rfl rfl 6 (by decide) (hts _ fl_M_22) (fun _ h9 => h9) rfl d_M_passes_109 ?_
          refine lv_iload hx hb d_M_passes_112 (lv_at hl 6 rfl) ?_
          refine x_ialdN (n := 10) hx hb hK hP 5 0 rfl rfl (by omega) (by omega) d_M_passes_114 ?_
          refine lv_iadd hx hb d_M_passes_115 ?_
          refine va_zald (n := 900) hx hb hK hP 11 1 rfl rfl (ls_in hN (h_x) (dr4_i hDr (by omega))) d_M_passes_116 ?_
          refine lv_if_eq (tgt := 144) hx hb d_M_passes_117 (by decide) (fun c_117 => ?_) (fun c_117 => ?_)
          · refine lv_iconst (v := (0 : Int32)) hx hb d_M_passes_144 (by decide) ?_
            refine lv_istore (lv' := [(7, .int (0 : Int32)), (6, .int (0 : Int32)), (5, .int (0 : Int32)), (0, .ref (a 0)), (1, .int x), (2, .int y), (3, .int v3), (4, .int (nI i))]) hx hb d_M_passes_145 hl (by decide) rfl (fun ls hl => ?_)
            refine lv_iload_n hx hb d_M_passes_147 rfl (lv_at hl 6 rfl) ?_
            refine lv_if_ne (tgt := 166) hx hb d_M_passes_148 (by decide) (fun c_148 => ?_) (fun c_148 => ?_)
            · refine lv_iconst (v := (1 : Int32)) hx hb d_M_passes_166 (by decide) ?_
              refine lv_goto (tgt := 171) hx hb d_M_passes_167 (by decide) ?_
              refine lv_istore_n (lv' := [(3, .int (1 : Int32)), (7, .int (0 : Int32)), (6, .int (0 : Int32)), (5, .int (0 : Int32)), (0, .ref (a 0)), (1, .int x), (2, .int y), (4, .int (nI i))]) hx hb d_M_passes_171 rfl hl (by decide) rfl (fun ls hl => ?_)
              refine lv_iinc (v := nI (i + 1)) (lv' := [(4, .int (nI (i + 1))), (3, .int (1 : Int32)), (7, .int (0 : Int32)), (6, .int (0 : Int32)), (5, .int (0 : Int32)), (0, .ref (a 0)), (1, .int x), (2, .int y)]) hx hb d_M_passes_172 hl (k := 7) rfl (nI_1 i) (by decide) rfl (fun ls hl => ?_)
              refine lv_goto (tgt := 15) hx hb d_M_passes_175 (by decide) ?_
              have e_b : m_passes_15 N K B Q x y (k + 1) i v3 = m_passes_15 N K B Q x y k (i + 1) (1 : Int32) := by rw [m_passes_15_S, if_neg c_32, if_neg c_43, if_pos c_70, if_pos c_117, if_neg c_148]
              rw [e_b]
              exact ih (i + 1) (by omega) (1 : Int32) ls (by first | exact Or.inl rfl | exact Or.inr rfl) (lv_sub hl [5, 6, 7, 1, 0] rfl)
            · refine lv_iload hx hb d_M_passes_151 (lv_at hl 2 rfl) ?_
              refine lv_if_eq (tgt := 170) hx hb d_M_passes_153 (by decide) (fun c_153 => ?_) (fun c_153 => absurd c_153 (by decide))
              refine lv_iconst (v := (0 : Int32)) hx hb d_M_passes_170 (by decide) ?_
              refine lv_istore_n (lv' := [(3, .int (0 : Int32)), (7, .int (0 : Int32)), (6, .int (0 : Int32)), (5, .int (0 : Int32)), (0, .ref (a 0)), (1, .int x), (2, .int y), (4, .int (nI i))]) hx hb d_M_passes_171 rfl hl (by decide) rfl (fun ls hl => ?_)
              refine lv_iinc (v := nI (i + 1)) (lv' := [(4, .int (nI (i + 1))), (3, .int (0 : Int32)), (7, .int (0 : Int32)), (6, .int (0 : Int32)), (5, .int (0 : Int32)), (0, .ref (a 0)), (1, .int x), (2, .int y)]) hx hb d_M_passes_172 hl (k := 7) rfl (nI_1 i) (by decide) rfl (fun ls hl => ?_)
              refine lv_goto (tgt := 15) hx hb d_M_passes_175 (by decide) ?_
              have e_b : m_passes_15 N K B Q x y (k + 1) i v3 = m_passes_15 N K B Q x y k (i + 1) (0 : Int32) := by rw [m_passes_15_S, if_neg c_32, if_neg c_43, if_pos c_70, if_pos c_117, if_pos c_148]
              rw [e_b]
              exact ih (i + 1) (by omega) (0 : Int32) ls (by first | exact Or.inl rfl | exact Or.inr rfl) (lv_sub hl [5, 6, 7, 1, 0] rfl)
          · refine lv_aload_n hx hb d_M_passes_120 rfl (lv_at hl 2 rfl) ?_
            refine va_get (D := D) (ci := 1) (v := .ref (a 11)) (C := R_M) (T := F_M) (N := 16) hx hb hts i_M hown hK hP 0 rfl rfl 14 (by decide) (hts _ fl_M_40) (fun _ h9 => h9) rfl d_M_passes_121 ?_
            refine lv_bipush (v := (30 : Int32)) hx hb d_M_passes_124 (by decide) ?_
            refine lv_aload_n hx hb d_M_passes_126 rfl (lv_at hl 2 rfl) ?_
            refine va_get (D := D) (ci := 1) (v := .ref (a 4)) (C := R_M) (T := F_M) (N := 16) hx hb hts i_M hown hK hP 0 rfl rfl 5 (by decide) (hts _ fl_M_19) (fun _ h9 => h9) rfl d_M_passes_127 ?_
            refine lv_iload hx hb d_M_passes_130 (lv_at hl 6 rfl) ?_
            refine x_ialdN (n := 10) hx hb hK hP 4 0 rfl rfl (by omega) (by omega) d_M_passes_132 ?_
            refine lv_imul hx hb d_M_passes_133 ?_
            refine lv_iload_n hx hb d_M_passes_134 rfl (lv_at hl 4 rfl) ?_
            refine lv_iadd hx hb d_M_passes_135 ?_
            refine va_zald (n := 900) hx hb hK hP 11 1 rfl rfl (ls_in hN (dr3_i hDr (by omega)) (h_y)) d_M_passes_136 ?_
            refine lv_if_eq (tgt := 144) hx hb d_M_passes_137 (by decide) (fun c_137 => ?_) (fun c_137 => ?_)
            · refine lv_iconst (v := (0 : Int32)) hx hb d_M_passes_144 (by decide) ?_
              refine lv_istore (lv' := [(7, .int (0 : Int32)), (6, .int (0 : Int32)), (5, .int (0 : Int32)), (0, .ref (a 0)), (1, .int x), (2, .int y), (3, .int v3), (4, .int (nI i))]) hx hb d_M_passes_145 hl (by decide) rfl (fun ls hl => ?_)
              refine lv_iload_n hx hb d_M_passes_147 rfl (lv_at hl 6 rfl) ?_
              refine lv_if_ne (tgt := 166) hx hb d_M_passes_148 (by decide) (fun c_148 => ?_) (fun c_148 => ?_)
              · refine lv_iconst (v := (1 : Int32)) hx hb d_M_passes_166 (by decide) ?_
                refine lv_goto (tgt := 171) hx hb d_M_passes_167 (by decide) ?_
                refine lv_istore_n (lv' := [(3, .int (1 : Int32)), (7, .int (0 : Int32)), (6, .int (0 : Int32)), (5, .int (0 : Int32)), (0, .ref (a 0)), (1, .int x), (2, .int y), (4, .int (nI i))]) hx hb d_M_passes_171 rfl hl (by decide) rfl (fun ls hl => ?_)
                refine lv_iinc (v := nI (i + 1)) (lv' := [(4, .int (nI (i + 1))), (3, .int (1 : Int32)), (7, .int (0 : Int32)), (6, .int (0 : Int32)), (5, .int (0 : Int32)), (0, .ref (a 0)), (1, .int x), (2, .int y)]) hx hb d_M_passes_172 hl (k := 7) rfl (nI_1 i) (by decide) rfl (fun ls hl => ?_)
                refine lv_goto (tgt := 15) hx hb d_M_passes_175 (by decide) ?_
                have e_b : m_passes_15 N K B Q x y (k + 1) i v3 = m_passes_15 N K B Q x y k (i + 1) (1 : Int32) := by rw [m_passes_15_S, if_neg c_32, if_neg c_43, if_pos c_70, if_neg c_117, if_pos c_137, if_neg c_148]
                rw [e_b]
                exact ih (i + 1) (by omega) (1 : Int32) ls (by first | exact Or.inl rfl | exact Or.inr rfl) (lv_sub hl [5, 6, 7, 1, 0] rfl)
              · refine lv_iload hx hb d_M_passes_151 (lv_at hl 2 rfl) ?_
                refine lv_if_eq (tgt := 170) hx hb d_M_passes_153 (by decide) (fun c_153 => ?_) (fun c_153 => absurd c_153 (by decide))
                refine lv_iconst (v := (0 : Int32)) hx hb d_M_passes_170 (by decide) ?_
                refine lv_istore_n (lv' := [(3, .int (0 : Int32)), (7, .int (0 : Int32)), (6, .int (0 : Int32)), (5, .int (0 : Int32)), (0, .ref (a 0)), (1, .int x), (2, .int y), (4, .int (nI i))]) hx hb d_M_passes_171 rfl hl (by decide) rfl (fun ls hl => ?_)
                refine lv_iinc (v := nI (i + 1)) (lv' := [(4, .int (nI (i + 1))), (3, .int (0 : Int32)), (7, .int (0 : Int32)), (6, .int (0 : Int32)), (5, .int (0 : Int32)), (0, .ref (a 0)), (1, .int x), (2, .int y)]) hx hb d_M_passes_172 hl (k := 7) rfl (nI_1 i) (by decide) rfl (fun ls hl => ?_)
                refine lv_goto (tgt := 15) hx hb d_M_passes_175 (by decide) ?_
                have e_b : m_passes_15 N K B Q x y (k + 1) i v3 = m_passes_15 N K B Q x y k (i + 1) (0 : Int32) := by rw [m_passes_15_S, if_neg c_32, if_neg c_43, if_pos c_70, if_neg c_117, if_pos c_137, if_pos c_148]
                rw [e_b]
                exact ih (i + 1) (by omega) (0 : Int32) ls (by first | exact Or.inl rfl | exact Or.inr rfl) (lv_sub hl [5, 6, 7, 1, 0] rfl)
            · refine lv_iconst (v := (1 : Int32)) hx hb d_M_passes_140 (by decide) ?_
              refine lv_goto (tgt := 145) hx hb d_M_passes_141 (by decide) ?_
              refine lv_istore (lv' := [(7, .int (1 : Int32)), (6, .int (0 : Int32)), (5, .int (0 : Int32)), (0, .ref (a 0)), (1, .int x), (2, .int y), (3, .int v3), (4, .int (nI i))]) hx hb d_M_passes_145 hl (by decide) rfl (fun ls hl => ?_)
              refine lv_iload_n hx hb d_M_passes_147 rfl (lv_at hl 6 rfl) ?_
              refine lv_if_ne (tgt := 166) hx hb d_M_passes_148 (by decide) (fun c_148 => ?_) (fun c_148 => ?_)
              · refine lv_iconst (v := (1 : Int32)) hx hb d_M_passes_166 (by decide) ?_
                refine lv_goto (tgt := 171) hx hb d_M_passes_167 (by decide) ?_
                refine lv_istore_n (lv' := [(3, .int (1 : Int32)), (7, .int (1 : Int32)), (6, .int (0 : Int32)), (5, .int (0 : Int32)), (0, .ref (a 0)), (1, .int x), (2, .int y), (4, .int (nI i))]) hx hb d_M_passes_171 rfl hl (by decide) rfl (fun ls hl => ?_)
                refine lv_iinc (v := nI (i + 1)) (lv' := [(4, .int (nI (i + 1))), (3, .int (1 : Int32)), (7, .int (1 : Int32)), (6, .int (0 : Int32)), (5, .int (0 : Int32)), (0, .ref (a 0)), (1, .int x), (2, .int y)]) hx hb d_M_passes_172 hl (k := 7) rfl (nI_1 i) (by decide) rfl (fun ls hl => ?_)
                refine lv_goto (tgt := 15) hx hb d_M_passes_175 (by decide) ?_
                have e_b : m_passes_15 N K B Q x y (k + 1) i v3 = m_passes_15 N K B Q x y k (i + 1) (1 : Int32) := by rw [m_passes_15_S, if_neg c_32, if_neg c_43, if_pos c_70, if_neg c_117, if_neg c_137, if_neg c_148]
                rw [e_b]
                exact ih (i + 1) (by omega) (1 : Int32) ls (by first | exact Or.inl rfl | exact Or.inr rfl) (lv_sub hl [5, 6, 7, 1, 0] rfl)
              · refine lv_iload hx hb d_M_passes_151 (lv_at hl 2 rfl) ?_
                refine lv_if_eq (tgt := 170) hx hb d_M_passes_153 (by decide) (fun c_153 => ?_) (fun c_153 => absurd c_153 (by decide))
                refine lv_iconst (v := (0 : Int32)) hx hb d_M_passes_170 (by decide) ?_
                refine lv_istore_n (lv' := [(3, .int (0 : Int32)), (7, .int (1 : Int32)), (6, .int (0 : Int32)), (5, .int (0 : Int32)), (0, .ref (a 0)), (1, .int x), (2, .int y), (4, .int (nI i))]) hx hb d_M_passes_171 rfl hl (by decide) rfl (fun ls hl => ?_)
                refine lv_iinc (v := nI (i + 1)) (lv' := [(4, .int (nI (i + 1))), (3, .int (0 : Int32)), (7, .int (1 : Int32)), (6, .int (0 : Int32)), (5, .int (0 : Int32)), (0, .ref (a 0)), (1, .int x), (2, .int y)]) hx hb d_M_passes_172 hl (k := 7) rfl (nI_1 i) (by decide) rfl (fun ls hl => ?_)
                refine lv_goto (tgt := 15) hx hb d_M_passes_175 (by decide) ?_
                have e_b : m_passes_15 N K B Q x y (k + 1) i v3 = m_passes_15 N K B Q x y k (i + 1) (0 : Int32) := by rw [m_passes_15_S, if_neg c_32, if_neg c_43, if_pos c_70, if_neg c_117, if_neg c_137, if_pos c_148]
                rw [e_b]
                exact ih (i + 1) (by omega) (0 : Int32) ls (by first | exact Or.inl rfl | exact Or.inr rfl) (lv_sub hl [5, 6, 7, 1, 0] rfl)
        · refine lv_aload_n hx hb d_M_passes_73 rfl (lv_at hl 1 rfl) ?_
          refine va_get (D := D) (ci := 1) (v := .ref (a 11)) (C := R_M) (T := F_M) (N := 16) hx hb hts i_M hown hK hP 0 rfl rfl 14 (by decide) (hts _ fl_M_40) (fun _ h9 => h9) rfl d_M_passes_74 ?_
          refine lv_bipush (v := (30 : Int32)) hx hb d_M_passes_77 (by decide) ?_
          refine lv_aload_n hx hb d_M_passes_79 rfl (lv_at hl 1 rfl) ?_
          refine va_get (D := D) (ci := 1) (v := .ref (a 5)) (C := R_M) (T := F_M) (N := 16) hx hb hts i_M hown hK hP 0 rfl rfl 6 (by decide) (hts _ fl_M_22) (fun _ h9 => h9) rfl d_M_passes_80 ?_
          refine lv_iload hx hb d_M_passes_83 (lv_at hl 5 rfl) ?_
          refine x_ialdN (n := 10) hx hb hK hP 5 0 rfl rfl (by omega) (by omega) d_M_passes_85 ?_
          refine lv_imul hx hb d_M_passes_86 ?_
          refine lv_iload_n hx hb d_M_passes_87 rfl (lv_at hl 3 rfl) ?_
          refine lv_iadd hx hb d_M_passes_88 ?_
          refine va_zald (n := 900) hx hb hK hP 11 1 rfl rfl (ls_in hN (dr4_i hDr (by omega)) (h_y)) d_M_passes_89 ?_
          refine lv_if_eq (tgt := 97) hx hb d_M_passes_90 (by decide) (fun c_90 => ?_) (fun c_90 => ?_)
          · refine lv_iconst (v := (0 : Int32)) hx hb d_M_passes_97 (by decide) ?_
            refine lv_istore (lv' := [(6, .int (0 : Int32)), (5, .int (0 : Int32)), (0, .ref (a 0)), (1, .int x), (2, .int y), (3, .int v3), (4, .int (nI i))]) hx hb d_M_passes_98 hl (by decide) rfl (fun ls hl => ?_)
            refine lv_aload_n hx hb d_M_passes_100 rfl (lv_at hl 2 rfl) ?_
            refine va_get (D := D) (ci := 1) (v := .ref (a 11)) (C := R_M) (T := F_M) (N := 16) hx hb hts i_M hown hK hP 0 rfl rfl 14 (by decide) (hts _ fl_M_40) (fun _ h9 => h9) rfl d_M_passes_101 ?_
            refine lv_bipush (v := (30 : Int32)) hx hb d_M_passes_104 (by decide) ?_
            refine lv_iload_n hx hb d_M_passes_106 rfl (lv_at hl 3 rfl) ?_
            refine lv_imul hx hb d_M_passes_107 ?_
            refine lv_aload_n hx hb d_M_passes_108 rfl (lv_at hl 2 rfl) ?_
            refine va_get (D := D) (ci := 1) (v := .ref (a 5)) (C := R_M) (T := F_M) (N := 16) hx hb hts i_M hown hK hP 0 rfl rfl 6 (by decide) (hts _ fl_M_22) (fun _ h9 => h9) rfl d_M_passes_109 ?_
            refine lv_iload hx hb d_M_passes_112 (lv_at hl 6 rfl) ?_
            refine x_ialdN (n := 10) hx hb hK hP 5 0 rfl rfl (by omega) (by omega) d_M_passes_114 ?_
            refine lv_iadd hx hb d_M_passes_115 ?_
            refine va_zald (n := 900) hx hb hK hP 11 1 rfl rfl (ls_in hN (h_x) (dr4_i hDr (by omega))) d_M_passes_116 ?_
            refine lv_if_eq (tgt := 144) hx hb d_M_passes_117 (by decide) (fun c_117 => ?_) (fun c_117 => ?_)
            · refine lv_iconst (v := (0 : Int32)) hx hb d_M_passes_144 (by decide) ?_
              refine lv_istore (lv' := [(7, .int (0 : Int32)), (6, .int (0 : Int32)), (5, .int (0 : Int32)), (0, .ref (a 0)), (1, .int x), (2, .int y), (3, .int v3), (4, .int (nI i))]) hx hb d_M_passes_145 hl (by decide) rfl (fun ls hl => ?_)
              refine lv_iload_n hx hb d_M_passes_147 rfl (lv_at hl 6 rfl) ?_
              refine lv_if_ne (tgt := 166) hx hb d_M_passes_148 (by decide) (fun c_148 => ?_) (fun c_148 => ?_)
              · refine lv_iconst (v := (1 : Int32)) hx hb d_M_passes_166 (by decide) ?_
                refine lv_goto (tgt := 171) hx hb d_M_passes_167 (by decide) ?_
                refine lv_istore_n (lv' := [(3, .int (1 : Int32)), (7, .int (0 : Int32)), (6, .int (0 : Int32)), (5, .int (0 : Int32)), (0, .ref (a 0)), (1, .int x), (2, .int y), (4, .int (nI i))]) hx hb d_M_passes_171 rfl hl (by decide) rfl (fun ls hl => ?_)
                refine lv_iinc (v := nI (i + 1)) (lv' := [(4, .int (nI (i + 1))), (3, .int (1 : Int32)), (7, .int (0 : Int32)), (6, .int (0 : Int32)), (5, .int (0 : Int32)), (0, .ref (a 0)), (1, .int x), (2, .int y)]) hx hb d_M_passes_172 hl (k := 7) rfl (nI_1 i) (by decide) rfl (fun ls hl => ?_)
                refine lv_goto (tgt := 15) hx hb d_M_passes_175 (by decide) ?_
                have e_b : m_passes_15 N K B Q x y (k + 1) i v3 = m_passes_15 N K B Q x y k (i + 1) (1 : Int32) := by rw [m_passes_15_S, if_neg c_32, if_neg c_43, if_neg c_70, if_pos c_90, if_pos c_117, if_neg c_148]
                rw [e_b]
                exact ih (i + 1) (by omega) (1 : Int32) ls (by first | exact Or.inl rfl | exact Or.inr rfl) (lv_sub hl [5, 6, 7, 1, 0] rfl)
              · refine lv_iload hx hb d_M_passes_151 (lv_at hl 2 rfl) ?_
                refine lv_if_eq (tgt := 170) hx hb d_M_passes_153 (by decide) (fun c_153 => ?_) (fun c_153 => absurd c_153 (by decide))
                refine lv_iconst (v := (0 : Int32)) hx hb d_M_passes_170 (by decide) ?_
                refine lv_istore_n (lv' := [(3, .int (0 : Int32)), (7, .int (0 : Int32)), (6, .int (0 : Int32)), (5, .int (0 : Int32)), (0, .ref (a 0)), (1, .int x), (2, .int y), (4, .int (nI i))]) hx hb d_M_passes_171 rfl hl (by decide) rfl (fun ls hl => ?_)
                refine lv_iinc (v := nI (i + 1)) (lv' := [(4, .int (nI (i + 1))), (3, .int (0 : Int32)), (7, .int (0 : Int32)), (6, .int (0 : Int32)), (5, .int (0 : Int32)), (0, .ref (a 0)), (1, .int x), (2, .int y)]) hx hb d_M_passes_172 hl (k := 7) rfl (nI_1 i) (by decide) rfl (fun ls hl => ?_)
                refine lv_goto (tgt := 15) hx hb d_M_passes_175 (by decide) ?_
                have e_b : m_passes_15 N K B Q x y (k + 1) i v3 = m_passes_15 N K B Q x y k (i + 1) (0 : Int32) := by rw [m_passes_15_S, if_neg c_32, if_neg c_43, if_neg c_70, if_pos c_90, if_pos c_117, if_pos c_148]
                rw [e_b]
                exact ih (i + 1) (by omega) (0 : Int32) ls (by first | exact Or.inl rfl | exact Or.inr rfl) (lv_sub hl [5, 6, 7, 1, 0] rfl)
            · refine lv_aload_n hx hb d_M_passes_120 rfl (lv_at hl 2 rfl) ?_
              refine va_get (D := D) (ci := 1) (v := .ref (a 11)) (C := R_M) (T := F_M) (N := 16) hx hb hts i_M hown hK hP 0 rfl rfl 14 (by decide) (hts _ fl_M_40) (fun _ h9 => h9) rfl d_M_passes_121 ?_
              refine lv_bipush (v := (30 : Int32)) hx hb d_M_passes_124 (by decide) ?_
              refine lv_aload_n hx hb d_M_passes_126 rfl (lv_at hl 2 rfl) ?_
              refine va_get (D := D) (ci := 1) (v := .ref (a 4)) (C := R_M) (T := F_M) (N := 16) hx hb hts i_M hown hK hP 0 rfl rfl 5 (by decide) (hts _ fl_M_19) (fun _ h9 => h9) rfl d_M_passes_127 ?_
              refine lv_iload hx hb d_M_passes_130 (lv_at hl 6 rfl) ?_
              refine x_ialdN (n := 10) hx hb hK hP 4 0 rfl rfl (by omega) (by omega) d_M_passes_132 ?_
              refine lv_imul hx hb d_M_passes_133 ?_
              refine lv_iload_n hx hb d_M_passes_134 rfl (lv_at hl 4 rfl) ?_
              refine lv_iadd hx hb d_M_passes_135 ?_
              refine va_zald (n := 900) hx hb hK hP 11 1 rfl rfl (ls_in hN (dr3_i hDr (by omega)) (h_y)) d_M_passes_136 ?_
              refine lv_if_eq (tgt := 144) hx hb d_M_passes_137 (by decide) (fun c_137 => ?_) (fun c_137 => ?_)
              · refine lv_iconst (v := (0 : Int32)) hx hb d_M_passes_144 (by decide) ?_
                refine lv_istore (lv' := [(7, .int (0 : Int32)), (6, .int (0 : Int32)), (5, .int (0 : Int32)), (0, .ref (a 0)), (1, .int x), (2, .int y), (3, .int v3), (4, .int (nI i))]) hx hb d_M_passes_145 hl (by decide) rfl (fun ls hl => ?_)
                refine lv_iload_n hx hb d_M_passes_147 rfl (lv_at hl 6 rfl) ?_
                refine lv_if_ne (tgt := 166) hx hb d_M_passes_148 (by decide) (fun c_148 => ?_) (fun c_148 => ?_)
                · refine lv_iconst (v := (1 : Int32)) hx hb d_M_passes_166 (by decide) ?_
                  refine lv_goto (tgt := 171) hx hb d_M_passes_167 (by decide) ?_
                  refine lv_istore_n (lv' := [(3, .int (1 : Int32)), (7, .int (0 : Int32)), (6, .int (0 : Int32)), (5, .int (0 : Int32)), (0, .ref (a 0)), (1, .int x), (2, .int y), (4, .int (nI i))]) hx hb d_M_passes_171 rfl hl (by decide) rfl (fun ls hl => ?_)
                  refine lv_iinc (v := nI (i + 1)) (lv' := [(4, .int (nI (i + 1))), (3, .int (1 : Int32)), (7, .int (0 : Int32)), (6, .int (0 : Int32)), (5, .int (0 : Int32)), (0, .ref (a 0)), (1, .int x), (2, .int y)]) hx hb d_M_passes_172 hl (k := 7) rfl (nI_1 i) (by decide) rfl (fun ls hl => ?_)
                  refine lv_goto (tgt := 15) hx hb d_M_passes_175 (by decide) ?_
                  have e_b : m_passes_15 N K B Q x y (k + 1) i v3 = m_passes_15 N K B Q x y k (i + 1) (1 : Int32) := by rw [m_passes_15_S, if_neg c_32, if_neg c_43, if_neg c_70, if_pos c_90, if_neg c_117, if_pos c_137, if_neg c_148]
                  rw [e_b]
                  exact ih (i + 1) (by omega) (1 : Int32) ls (by first | exact Or.inl rfl | exact Or.inr rfl) (lv_sub hl [5, 6, 7, 1, 0] rfl)
                · refine lv_iload hx hb d_M_passes_151 (lv_at hl 2 rfl) ?_
                  refine lv_if_eq (tgt := 170) hx hb d_M_passes_153 (by decide) (fun c_153 => ?_) (fun c_153 => absurd c_153 (by decide))
                  refine lv_iconst (v := (0 : Int32)) hx hb d_M_passes_170 (by decide) ?_
                  refine lv_istore_n (lv' := [(3, .int (0 : Int32)), (7, .int (0 : Int32)), (6, .int (0 : Int32)), (5, .int (0 : Int32)), (0, .ref (a 0)), (1, .int x), (2, .int y), (4, .int (nI i))]) hx hb d_M_passes_171 rfl hl (by decide) rfl (fun ls hl => ?_)
                  refine lv_iinc (v := nI (i + 1)) (lv' := [(4, .int (nI (i + 1))), (3, .int (0 : Int32)), (7, .int (0 : Int32)), (6, .int (0 : Int32)), (5, .int (0 : Int32)), (0, .ref (a 0)), (1, .int x), (2, .int y)]) hx hb d_M_passes_172 hl (k := 7) rfl (nI_1 i) (by decide) rfl (fun ls hl => ?_)
                  refine lv_goto (tgt := 15) hx hb d_M_passes_175 (by decide) ?_
                  have e_b : m_passes_15 N K B Q x y (k + 1) i v3 = m_passes_15 N K B Q x y k (i + 1) (0 : Int32) := by rw [m_passes_15_S, if_neg c_32, if_neg c_43, if_neg c_70, if_pos c_90, if_neg c_117, if_pos c_137, if_pos c_148]
                  rw [e_b]
                  exact ih (i + 1) (by omega) (0 : Int32) ls (by first | exact Or.inl rfl | exact Or.inr rfl) (lv_sub hl [5, 6, 7, 1, 0] rfl)
              · refine lv_iconst (v := (1 : Int32)) hx hb d_M_passes_140 (by decide) ?_
                refine lv_goto (tgt := 145) hx hb d_M_passes_141 (by decide) ?_
                refine lv_istore (lv' := [(7, .int (1 : Int32)), (6, .int (0 : Int32)), (5, .int (0 : Int32)), (0, .ref (a 0)), (1, .int x), (2, .int y), (3, .int v3), (4, .int (nI i))]) hx hb d_M_passes_145 hl (by decide) rfl (fun ls hl => ?_)
                refine lv_iload_n hx hb d_M_passes_147 rfl (lv_at hl 6 rfl) ?_
                refine lv_if_ne (tgt := 166) hx hb d_M_passes_148 (by decide) (fun c_148 => ?_) (fun c_148 => ?_)
                · refine lv_iconst (v := (1 : Int32)) hx hb d_M_passes_166 (by decide) ?_
                  refine lv_goto (tgt := 171) hx hb d_M_passes_167 (by decide) ?_
                  refine lv_istore_n (lv' := [(3, .int (1 : Int32)), (7, .int (1 : Int32)), (6, .int (0 : Int32)), (5, .int (0 : Int32)), (0, .ref (a 0)), (1, .int x), (2, .int y), (4, .int (nI i))]) hx hb d_M_passes_171 rfl hl (by decide) rfl (fun ls hl => ?_)
                  refine lv_iinc (v := nI (i + 1)) (lv' := [(4, .int (nI (i + 1))), (3, .int (1 : Int32)), (7, .int (1 : Int32)), (6, .int (0 : Int32)), (5, .int (0 : Int32)), (0, .ref (a 0)), (1, .int x), (2, .int y)]) hx hb d_M_passes_172 hl (k := 7) rfl (nI_1 i) (by decide) rfl (fun ls hl => ?_)
                  refine lv_goto (tgt := 15) hx hb d_M_passes_175 (by decide) ?_
                  have e_b : m_passes_15 N K B Q x y (k + 1) i v3 = m_passes_15 N K B Q x y k (i + 1) (1 : Int32) := by rw [m_passes_15_S, if_neg c_32, if_neg c_43, if_neg c_70, if_pos c_90, if_neg c_117, if_neg c_137, if_neg c_148]
                  rw [e_b]
                  exact ih (i + 1) (by omega) (1 : Int32) ls (by first | exact Or.inl rfl | exact Or.inr rfl) (lv_sub hl [5, 6, 7, 1, 0] rfl)
                · refine lv_iload hx hb d_M_passes_151 (lv_at hl 2 rfl) ?_
                  refine lv_if_eq (tgt := 170) hx hb d_M_passes_153 (by decide) (fun c_153 => ?_) (fun c_153 => absurd c_153 (by decide))
                  refine lv_iconst (v := (0 : Int32)) hx hb d_M_passes_170 (by decide) ?_
                  refine lv_istore_n (lv' := [(3, .int (0 : Int32)), (7, .int (1 : Int32)), (6, .int (0 : Int32)), (5, .int (0 : Int32)), (0, .ref (a 0)), (1, .int x), (2, .int y), (4, .int (nI i))]) hx hb d_M_passes_171 rfl hl (by decide) rfl (fun ls hl => ?_)
                  refine lv_iinc (v := nI (i + 1)) (lv' := [(4, .int (nI (i + 1))), (3, .int (0 : Int32)), (7, .int (1 : Int32)), (6, .int (0 : Int32)), (5, .int (0 : Int32)), (0, .ref (a 0)), (1, .int x), (2, .int y)]) hx hb d_M_passes_172 hl (k := 7) rfl (nI_1 i) (by decide) rfl (fun ls hl => ?_)
                  refine lv_goto (tgt := 15) hx hb d_M_passes_175 (by decide) ?_
                  have e_b : m_passes_15 N K B Q x y (k + 1) i v3 = m_passes_15 N K B Q x y k (i + 1) (0 : Int32) := by rw [m_passes_15_S, if_neg c_32, if_neg c_43, if_neg c_70, if_pos c_90, if_neg c_117, if_neg c_137, if_pos c_148]
                  rw [e_b]
                  exact ih (i + 1) (by omega) (0 : Int32) ls (by first | exact Or.inl rfl | exact Or.inr rfl) (lv_sub hl [5, 6, 7, 1, 0] rfl)
          · refine lv_iconst (v := (1 : Int32)) hx hb d_M_passes_93 (by decide) ?_
            refine lv_goto (tgt := 98) hx hb d_M_passes_94 (by decide) ?_
            refine lv_istore (lv' := [(6, .int (1 : Int32)), (5, .int (0 : Int32)), (0, .ref (a 0)), (1, .int x), (2, .int y), (3, .int v3), (4, .int (nI i))]) hx hb d_M_passes_98 hl (by decide) rfl (fun ls hl => ?_)
            refine lv_aload_n hx hb d_M_passes_100 rfl (lv_at hl 2 rfl) ?_
            refine va_get (D := D) (ci := 1) (v := .ref (a 11)) (C := R_M) (T := F_M) (N := 16) hx hb hts i_M hown hK hP 0 rfl rfl 14 (by decide) (hts _ fl_M_40) (fun _ h9 => h9) rfl d_M_passes_101 ?_
            refine lv_bipush (v := (30 : Int32)) hx hb d_M_passes_104 (by decide) ?_
            refine lv_iload_n hx hb d_M_passes_106 rfl (lv_at hl 3 rfl) ?_
            refine lv_imul hx hb d_M_passes_107 ?_
            refine lv_aload_n hx hb d_M_passes_108 rfl (lv_at hl 2 rfl) ?_
            refine va_get (D := D) (ci := 1) (v := .ref (a 5)) (C := R_M) (T := F_M) (N := 16) hx hb hts i_M hown hK hP 0 rfl rfl 6 (by decide) (hts _ fl_M_22) (fun _ h9 => h9) rfl d_M_passes_109 ?_
            refine lv_iload hx hb d_M_passes_112 (lv_at hl 6 rfl) ?_
            refine x_ialdN (n := 10) hx hb hK hP 5 0 rfl rfl (by omega) (by omega) d_M_passes_114 ?_
            refine lv_iadd hx hb d_M_passes_115 ?_
            refine va_zald (n := 900) hx hb hK hP 11 1 rfl rfl (ls_in hN (h_x) (dr4_i hDr (by omega))) d_M_passes_116 ?_
            refine lv_if_eq (tgt := 144) hx hb d_M_passes_117 (by decide) (fun c_117 => ?_) (fun c_117 => ?_)
            · refine lv_iconst (v := (0 : Int32)) hx hb d_M_passes_144 (by decide) ?_
              refine lv_istore (lv' := [(7, .int (0 : Int32)), (6, .int (1 : Int32)), (5, .int (0 : Int32)), (0, .ref (a 0)), (1, .int x), (2, .int y), (3, .int v3), (4, .int (nI i))]) hx hb d_M_passes_145 hl (by decide) rfl (fun ls hl => ?_)
              refine lv_iload_n hx hb d_M_passes_147 rfl (lv_at hl 6 rfl) ?_
              refine lv_if_ne (tgt := 166) hx hb d_M_passes_148 (by decide) (fun c_148 => ?_) (fun c_148 => ?_)
              · refine lv_iconst (v := (1 : Int32)) hx hb d_M_passes_166 (by decide) ?_
                refine lv_goto (tgt := 171) hx hb d_M_passes_167 (by decide) ?_
                refine lv_istore_n (lv' := [(3, .int (1 : Int32)), (7, .int (0 : Int32)), (6, .int (1 : Int32)), (5, .int (0 : Int32)), (0, .ref (a 0)), (1, .int x), (2, .int y), (4, .int (nI i))]) hx hb d_M_passes_171 rfl hl (by decide) rfl (fun ls hl => ?_)
                refine lv_iinc (v := nI (i + 1)) (lv' := [(4, .int (nI (i + 1))), (3, .int (1 : Int32)), (7, .int (0 : Int32)), (6, .int (1 : Int32)), (5, .int (0 : Int32)), (0, .ref (a 0)), (1, .int x), (2, .int y)]) hx hb d_M_passes_172 hl (k := 7) rfl (nI_1 i) (by decide) rfl (fun ls hl => ?_)
                refine lv_goto (tgt := 15) hx hb d_M_passes_175 (by decide) ?_
                have e_b : m_passes_15 N K B Q x y (k + 1) i v3 = m_passes_15 N K B Q x y k (i + 1) (1 : Int32) := by rw [m_passes_15_S, if_neg c_32, if_neg c_43, if_neg c_70, if_neg c_90, if_pos c_117, if_neg c_148]
                rw [e_b]
                exact ih (i + 1) (by omega) (1 : Int32) ls (by first | exact Or.inl rfl | exact Or.inr rfl) (lv_sub hl [5, 6, 7, 1, 0] rfl)
              · refine lv_iload hx hb d_M_passes_151 (lv_at hl 2 rfl) ?_
                refine lv_if_eq (tgt := 170) hx hb d_M_passes_153 (by decide) (fun c_153 => ?_) (fun c_153 => absurd c_153 (by decide))
                refine lv_iconst (v := (0 : Int32)) hx hb d_M_passes_170 (by decide) ?_
                refine lv_istore_n (lv' := [(3, .int (0 : Int32)), (7, .int (0 : Int32)), (6, .int (1 : Int32)), (5, .int (0 : Int32)), (0, .ref (a 0)), (1, .int x), (2, .int y), (4, .int (nI i))]) hx hb d_M_passes_171 rfl hl (by decide) rfl (fun ls hl => ?_)
                refine lv_iinc (v := nI (i + 1)) (lv' := [(4, .int (nI (i + 1))), (3, .int (0 : Int32)), (7, .int (0 : Int32)), (6, .int (1 : Int32)), (5, .int (0 : Int32)), (0, .ref (a 0)), (1, .int x), (2, .int y)]) hx hb d_M_passes_172 hl (k := 7) rfl (nI_1 i) (by decide) rfl (fun ls hl => ?_)
                refine lv_goto (tgt := 15) hx hb d_M_passes_175 (by decide) ?_
                have e_b : m_passes_15 N K B Q x y (k + 1) i v3 = m_passes_15 N K B Q x y k (i + 1) (0 : Int32) := by rw [m_passes_15_S, if_neg c_32, if_neg c_43, if_neg c_70, if_neg c_90, if_pos c_117, if_pos c_148]
                rw [e_b]
                exact ih (i + 1) (by omega) (0 : Int32) ls (by first | exact Or.inl rfl | exact Or.inr rfl) (lv_sub hl [5, 6, 7, 1, 0] rfl)
            · refine lv_aload_n hx hb d_M_passes_120 rfl (lv_at hl 2 rfl) ?_
              refine va_get (D := D) (ci := 1) (v := .ref (a 11)) (C := R_M) (T := F_M) (N := 16) hx hb hts i_M hown hK hP 0 rfl rfl 14 (by decide) (hts _ fl_M_40) (fun _ h9 => h9) rfl d_M_passes_121 ?_
              refine lv_bipush (v := (30 : Int32)) hx hb d_M_passes_124 (by decide) ?_
              refine lv_aload_n hx hb d_M_passes_126 rfl (lv_at hl 2 rfl) ?_
              refine va_get (D := D) (ci := 1) (v := .ref (a 4)) (C := R_M) (T := F_M) (N := 16) hx hb hts i_M hown hK hP 0 rfl rfl 5 (by decide) (hts _ fl_M_19) (fun _ h9 => h9) rfl d_M_passes_127 ?_
              refine lv_iload hx hb d_M_passes_130 (lv_at hl 6 rfl) ?_
              refine x_ialdN (n := 10) hx hb hK hP 4 0 rfl rfl (by omega) (by omega) d_M_passes_132 ?_
              refine lv_imul hx hb d_M_passes_133 ?_
              refine lv_iload_n hx hb d_M_passes_134 rfl (lv_at hl 4 rfl) ?_
              refine lv_iadd hx hb d_M_passes_135 ?_
              refine va_zald (n := 900) hx hb hK hP 11 1 rfl rfl (ls_in hN (dr3_i hDr (by omega)) (h_y)) d_M_passes_136 ?_
              refine lv_if_eq (tgt := 144) hx hb d_M_passes_137 (by decide) (fun c_137 => ?_) (fun c_137 => ?_)
              · refine lv_iconst (v := (0 : Int32)) hx hb d_M_passes_144 (by decide) ?_
                refine lv_istore (lv' := [(7, .int (0 : Int32)), (6, .int (1 : Int32)), (5, .int (0 : Int32)), (0, .ref (a 0)), (1, .int x), (2, .int y), (3, .int v3), (4, .int (nI i))]) hx hb d_M_passes_145 hl (by decide) rfl (fun ls hl => ?_)
                refine lv_iload_n hx hb d_M_passes_147 rfl (lv_at hl 6 rfl) ?_
                refine lv_if_ne (tgt := 166) hx hb d_M_passes_148 (by decide) (fun c_148 => ?_) (fun c_148 => ?_)
                · refine lv_iconst (v := (1 : Int32)) hx hb d_M_passes_166 (by decide) ?_
                  refine lv_goto (tgt := 171) hx hb d_M_passes_167 (by decide) ?_
                  refine lv_istore_n (lv' := [(3, .int (1 : Int32)), (7, .int (0 : Int32)), (6, .int (1 : Int32)), (5, .int (0 : Int32)), (0, .ref (a 0)), (1, .int x), (2, .int y), (4, .int (nI i))]) hx hb d_M_passes_171 rfl hl (by decide) rfl (fun ls hl => ?_)
                  refine lv_iinc (v := nI (i + 1)) (lv' := [(4, .int (nI (i + 1))), (3, .int (1 : Int32)), (7, .int (0 : Int32)), (6, .int (1 : Int32)), (5, .int (0 : Int32)), (0, .ref (a 0)), (1, .int x), (2, .int y)]) hx hb d_M_passes_172 hl (k := 7) rfl (nI_1 i) (by decide) rfl (fun ls hl => ?_)
                  refine lv_goto (tgt := 15) hx hb d_M_passes_175 (by decide) ?_
                  have e_b : m_passes_15 N K B Q x y (k + 1) i v3 = m_passes_15 N K B Q x y k (i + 1) (1 : Int32) := by rw [m_passes_15_S, if_neg c_32, if_neg c_43, if_neg c_70, if_neg c_90, if_neg c_117, if_pos c_137, if_neg c_148]
                  rw [e_b]
                  exact ih (i + 1) (by omega) (1 : Int32) ls (by first | exact Or.inl rfl | exact Or.inr rfl) (lv_sub hl [5, 6, 7, 1, 0] rfl)
                · refine lv_iload hx hb d_M_passes_151 (lv_at hl 2 rfl) ?_
                  refine lv_if_eq (tgt := 170) hx hb d_M_passes_153 (by decide) (fun c_153 => ?_) (fun c_153 => absurd c_153 (by decide))
                  refine lv_iconst (v := (0 : Int32)) hx hb d_M_passes_170 (by decide) ?_
                  refine lv_istore_n (lv' := [(3, .int (0 : Int32)), (7, .int (0 : Int32)), (6, .int (1 : Int32)), (5, .int (0 : Int32)), (0, .ref (a 0)), (1, .int x), (2, .int y), (4, .int (nI i))]) hx hb d_M_passes_171 rfl hl (by decide) rfl (fun ls hl => ?_)
                  refine lv_iinc (v := nI (i + 1)) (lv' := [(4, .int (nI (i + 1))), (3, .int (0 : Int32)), (7, .int (0 : Int32)), (6, .int (1 : Int32)), (5, .int (0 : Int32)), (0, .ref (a 0)), (1, .int x), (2, .int y)]) hx hb d_M_passes_172 hl (k := 7) rfl (nI_1 i) (by decide) rfl (fun ls hl => ?_)
                  refine lv_goto (tgt := 15) hx hb d_M_passes_175 (by decide) ?_
                  have e_b : m_passes_15 N K B Q x y (k + 1) i v3 = m_passes_15 N K B Q x y k (i + 1) (0 : Int32) := by rw [m_passes_15_S, if_neg c_32, if_neg c_43, if_neg c_70, if_neg c_90, if_neg c_117, if_pos c_137, if_pos c_148]
                  rw [e_b]
                  exact ih (i + 1) (by omega) (0 : Int32) ls (by first | exact Or.inl rfl | exact Or.inr rfl) (lv_sub hl [5, 6, 7, 1, 0] rfl)
              · refine lv_iconst (v := (1 : Int32)) hx hb d_M_passes_140 (by decide) ?_
                refine lv_goto (tgt := 145) hx hb d_M_passes_141 (by decide) ?_
                refine lv_istore (lv' := [(7, .int (1 : Int32)), (6, .int (1 : Int32)), (5, .int (0 : Int32)), (0, .ref (a 0)), (1, .int x), (2, .int y), (3, .int v3), (4, .int (nI i))]) hx hb d_M_passes_145 hl (by decide) rfl (fun ls hl => ?_)
                refine lv_iload_n hx hb d_M_passes_147 rfl (lv_at hl 6 rfl) ?_
                refine lv_if_ne (tgt := 166) hx hb d_M_passes_148 (by decide) (fun c_148 => ?_) (fun c_148 => ?_)
                · refine lv_iconst (v := (1 : Int32)) hx hb d_M_passes_166 (by decide) ?_
                  refine lv_goto (tgt := 171) hx hb d_M_passes_167 (by decide) ?_
                  refine lv_istore_n (lv' := [(3, .int (1 : Int32)), (7, .int (1 : Int32)), (6, .int (1 : Int32)), (5, .int (0 : Int32)), (0, .ref (a 0)), (1, .int x), (2, .int y), (4, .int (nI i))]) hx hb d_M_passes_171 rfl hl (by decide) rfl (fun ls hl => ?_)
                  refine lv_iinc (v := nI (i + 1)) (lv' := [(4, .int (nI (i + 1))), (3, .int (1 : Int32)), (7, .int (1 : Int32)), (6, .int (1 : Int32)), (5, .int (0 : Int32)), (0, .ref (a 0)), (1, .int x), (2, .int y)]) hx hb d_M_passes_172 hl (k := 7) rfl (nI_1 i) (by decide) rfl (fun ls hl => ?_)
                  refine lv_goto (tgt := 15) hx hb d_M_passes_175 (by decide) ?_
                  have e_b : m_passes_15 N K B Q x y (k + 1) i v3 = m_passes_15 N K B Q x y k (i + 1) (1 : Int32) := by rw [m_passes_15_S, if_neg c_32, if_neg c_43, if_neg c_70, if_neg c_90, if_neg c_117, if_neg c_137, if_neg c_148]
                  rw [e_b]
                  exact ih (i + 1) (by omega) (1 : Int32) ls (by first | exact Or.inl rfl | exact Or.inr rfl) (lv_sub hl [5, 6, 7, 1, 0] rfl)
                · refine lv_iload hx hb d_M_passes_151 (lv_at hl 2 rfl) ?_
                  refine lv_if_eq (tgt := 170) hx hb d_M_passes_153 (by decide) (fun c_153 => ?_) (fun c_153 => absurd c_153 (by decide))
                  refine lv_iconst (v := (0 : Int32)) hx hb d_M_passes_170 (by decide) ?_
                  refine lv_istore_n (lv' := [(3, .int (0 : Int32)), (7, .int (1 : Int32)), (6, .int (1 : Int32)), (5, .int (0 : Int32)), (0, .ref (a 0)), (1, .int x), (2, .int y), (4, .int (nI i))]) hx hb d_M_passes_171 rfl hl (by decide) rfl (fun ls hl => ?_)
                  refine lv_iinc (v := nI (i + 1)) (lv' := [(4, .int (nI (i + 1))), (3, .int (0 : Int32)), (7, .int (1 : Int32)), (6, .int (1 : Int32)), (5, .int (0 : Int32)), (0, .ref (a 0)), (1, .int x), (2, .int y)]) hx hb d_M_passes_172 hl (k := 7) rfl (nI_1 i) (by decide) rfl (fun ls hl => ?_)
                  refine lv_goto (tgt := 15) hx hb d_M_passes_175 (by decide) ?_
                  have e_b : m_passes_15 N K B Q x y (k + 1) i v3 = m_passes_15 N K B Q x y k (i + 1) (0 : Int32) := by rw [m_passes_15_S, if_neg c_32, if_neg c_43, if_neg c_70, if_neg c_90, if_neg c_117, if_neg c_137, if_pos c_148]
                  rw [e_b]
                  exact ih (i + 1) (by omega) (0 : Int32) ls (by first | exact Or.inl rfl | exact Or.inr rfl) (lv_sub hl [5, 6, 7, 1, 0] rfl)
      · refine lv_iconst (v := (1 : Int32)) hx hb d_M_passes_46 (by decide) ?_
        refine lv_goto (tgt := 51) hx hb d_M_passes_47 (by decide) ?_
        refine lv_istore (lv' := [(5, .int (1 : Int32)), (0, .ref (a 0)), (1, .int x), (2, .int y), (3, .int v3), (4, .int (nI i))]) hx hb d_M_passes_51 hl (by decide) rfl (fun ls hl => ?_)
        refine lv_aload_n hx hb d_M_passes_53 rfl (lv_at hl 1 rfl) ?_
        refine va_get (D := D) (ci := 1) (v := .ref (a 11)) (C := R_M) (T := F_M) (N := 16) hx hb hts i_M hown hK hP 0 rfl rfl 14 (by decide) (hts _ fl_M_40) (fun _ h9 => h9) rfl d_M_passes_54 ?_
        refine lv_bipush (v := (30 : Int32)) hx hb d_M_passes_57 (by decide) ?_
        refine lv_iload_n hx hb d_M_passes_59 rfl (lv_at hl 2 rfl) ?_
        refine lv_imul hx hb d_M_passes_60 ?_
        refine lv_aload_n hx hb d_M_passes_61 rfl (lv_at hl 1 rfl) ?_
        refine va_get (D := D) (ci := 1) (v := .ref (a 4)) (C := R_M) (T := F_M) (N := 16) hx hb hts i_M hown hK hP 0 rfl rfl 5 (by decide) (hts _ fl_M_19) (fun _ h9 => h9) rfl d_M_passes_62 ?_
        refine lv_iload hx hb d_M_passes_65 (lv_at hl 5 rfl) ?_
        refine x_ialdN (n := 10) hx hb hK hP 4 0 rfl rfl (by omega) (by omega) d_M_passes_67 ?_
        refine lv_iadd hx hb d_M_passes_68 ?_
        refine va_zald (n := 900) hx hb hK hP 11 1 rfl rfl (ls_in hN (h_x) (dr3_i hDr (by omega))) d_M_passes_69 ?_
        refine lv_if_eq (tgt := 97) hx hb d_M_passes_70 (by decide) (fun c_70 => ?_) (fun c_70 => ?_)
        · refine lv_iconst (v := (0 : Int32)) hx hb d_M_passes_97 (by decide) ?_
          refine lv_istore (lv' := [(6, .int (0 : Int32)), (5, .int (1 : Int32)), (0, .ref (a 0)), (1, .int x), (2, .int y), (3, .int v3), (4, .int (nI i))]) hx hb d_M_passes_98 hl (by decide) rfl (fun ls hl => ?_)
          refine lv_aload_n hx hb d_M_passes_100 rfl (lv_at hl 2 rfl) ?_
          refine va_get (D := D) (ci := 1) (v := .ref (a 11)) (C := R_M) (T := F_M) (N := 16) hx hb hts i_M hown hK hP 0 rfl rfl 14 (by decide) (hts _ fl_M_40) (fun _ h9 => h9) rfl d_M_passes_101 ?_
          refine lv_bipush (v := (30 : Int32)) hx hb d_M_passes_104 (by decide) ?_
          refine lv_iload_n hx hb d_M_passes_106 rfl (lv_at hl 3 rfl) ?_
          refine lv_imul hx hb d_M_passes_107 ?_
          refine lv_aload_n hx hb d_M_passes_108 rfl (lv_at hl 2 rfl) ?_
          refine va_get (D := D) (ci := 1) (v := .ref (a 5)) (C := R_M) (T := F_M) (N := 16) hx hb hts i_M hown hK hP 0 rfl rfl 6 (by decide) (hts _ fl_M_22) (fun _ h9 => h9) rfl d_M_passes_109 ?_
          refine lv_iload hx hb d_M_passes_112 (lv_at hl 6 rfl) ?_
          refine x_ialdN (n := 10) hx hb hK hP 5 0 rfl rfl (by omega) (by omega) d_M_passes_114 ?_
          refine lv_iadd hx hb d_M_passes_115 ?_
          refine va_zald (n := 900) hx hb hK hP 11 1 rfl rfl (ls_in hN (h_x) (dr4_i hDr (by omega))) d_M_passes_116 ?_
          refine lv_if_eq (tgt := 144) hx hb d_M_passes_117 (by decide) (fun c_117 => ?_) (fun c_117 => ?_)
          · refine lv_iconst (v := (0 : Int32)) hx hb d_M_passes_144 (by decide) ?_
            refine lv_istore (lv' := [(7, .int (0 : Int32)), (6, .int (0 : Int32)), (5, .int (1 : Int32)), (0, .ref (a 0)), (1, .int x), (2, .int y), (3, .int v3), (4, .int (nI i))]) hx hb d_M_passes_145 hl (by decide) rfl (fun ls hl => ?_)
            refine lv_iload_n hx hb d_M_passes_147 rfl (lv_at hl 6 rfl) ?_
            refine lv_if_ne (tgt := 166) hx hb d_M_passes_148 (by decide) (fun c_148 => ?_) (fun c_148 => ?_)
            · refine lv_iconst (v := (1 : Int32)) hx hb d_M_passes_166 (by decide) ?_
              refine lv_goto (tgt := 171) hx hb d_M_passes_167 (by decide) ?_
              refine lv_istore_n (lv' := [(3, .int (1 : Int32)), (7, .int (0 : Int32)), (6, .int (0 : Int32)), (5, .int (1 : Int32)), (0, .ref (a 0)), (1, .int x), (2, .int y), (4, .int (nI i))]) hx hb d_M_passes_171 rfl hl (by decide) rfl (fun ls hl => ?_)
              refine lv_iinc (v := nI (i + 1)) (lv' := [(4, .int (nI (i + 1))), (3, .int (1 : Int32)), (7, .int (0 : Int32)), (6, .int (0 : Int32)), (5, .int (1 : Int32)), (0, .ref (a 0)), (1, .int x), (2, .int y)]) hx hb d_M_passes_172 hl (k := 7) rfl (nI_1 i) (by decide) rfl (fun ls hl => ?_)
              refine lv_goto (tgt := 15) hx hb d_M_passes_175 (by decide) ?_
              have e_b : m_passes_15 N K B Q x y (k + 1) i v3 = m_passes_15 N K B Q x y k (i + 1) (1 : Int32) := by rw [m_passes_15_S, if_neg c_32, if_pos c_43, if_pos c_70, if_pos c_117, if_neg c_148]
              rw [e_b]
              exact ih (i + 1) (by omega) (1 : Int32) ls (by first | exact Or.inl rfl | exact Or.inr rfl) (lv_sub hl [5, 6, 7, 1, 0] rfl)
            · refine lv_iload hx hb d_M_passes_151 (lv_at hl 2 rfl) ?_
              refine lv_if_eq (tgt := 170) hx hb d_M_passes_153 (by decide) (fun c_153 => absurd c_153 (by decide)) (fun c_153 => ?_)
              refine lv_iload hx hb d_M_passes_156 (lv_at hl 1 rfl) ?_
              refine lv_if_ne (tgt := 166) hx hb d_M_passes_158 (by decide) (fun c_158 => absurd c_158 (by decide)) (fun c_158 => ?_)
              refine lv_iload hx hb d_M_passes_161 (lv_at hl 0 rfl) ?_
              refine lv_if_eq (tgt := 170) hx hb d_M_passes_163 (by decide) (fun c_163 => ?_) (fun c_163 => absurd c_163 (by decide))
              refine lv_iconst (v := (0 : Int32)) hx hb d_M_passes_170 (by decide) ?_
              refine lv_istore_n (lv' := [(3, .int (0 : Int32)), (7, .int (0 : Int32)), (6, .int (0 : Int32)), (5, .int (1 : Int32)), (0, .ref (a 0)), (1, .int x), (2, .int y), (4, .int (nI i))]) hx hb d_M_passes_171 rfl hl (by decide) rfl (fun ls hl => ?_)
              refine lv_iinc (v := nI (i + 1)) (lv' := [(4, .int (nI (i + 1))), (3, .int (0 : Int32)), (7, .int (0 : Int32)), (6, .int (0 : Int32)), (5, .int (1 : Int32)), (0, .ref (a 0)), (1, .int x), (2, .int y)]) hx hb d_M_passes_172 hl (k := 7) rfl (nI_1 i) (by decide) rfl (fun ls hl => ?_)
              refine lv_goto (tgt := 15) hx hb d_M_passes_175 (by decide) ?_
              have e_b : m_passes_15 N K B Q x y (k + 1) i v3 = m_passes_15 N K B Q x y k (i + 1) (0 : Int32) := by rw [m_passes_15_S, if_neg c_32, if_pos c_43, if_pos c_70, if_pos c_117, if_pos c_148]
              rw [e_b]
              exact ih (i + 1) (by omega) (0 : Int32) ls (by first | exact Or.inl rfl | exact Or.inr rfl) (lv_sub hl [5, 6, 7, 1, 0] rfl)
          · refine lv_aload_n hx hb d_M_passes_120 rfl (lv_at hl 2 rfl) ?_
            refine va_get (D := D) (ci := 1) (v := .ref (a 11)) (C := R_M) (T := F_M) (N := 16) hx hb hts i_M hown hK hP 0 rfl rfl 14 (by decide) (hts _ fl_M_40) (fun _ h9 => h9) rfl d_M_passes_121 ?_
            refine lv_bipush (v := (30 : Int32)) hx hb d_M_passes_124 (by decide) ?_
            refine lv_aload_n hx hb d_M_passes_126 rfl (lv_at hl 2 rfl) ?_
            refine va_get (D := D) (ci := 1) (v := .ref (a 4)) (C := R_M) (T := F_M) (N := 16) hx hb hts i_M hown hK hP 0 rfl rfl 5 (by decide) (hts _ fl_M_19) (fun _ h9 => h9) rfl d_M_passes_127 ?_
            refine lv_iload hx hb d_M_passes_130 (lv_at hl 6 rfl) ?_
            refine x_ialdN (n := 10) hx hb hK hP 4 0 rfl rfl (by omega) (by omega) d_M_passes_132 ?_
            refine lv_imul hx hb d_M_passes_133 ?_
            refine lv_iload_n hx hb d_M_passes_134 rfl (lv_at hl 4 rfl) ?_
            refine lv_iadd hx hb d_M_passes_135 ?_
            refine va_zald (n := 900) hx hb hK hP 11 1 rfl rfl (ls_in hN (dr3_i hDr (by omega)) (h_y)) d_M_passes_136 ?_
            refine lv_if_eq (tgt := 144) hx hb d_M_passes_137 (by decide) (fun c_137 => ?_) (fun c_137 => ?_)
            · refine lv_iconst (v := (0 : Int32)) hx hb d_M_passes_144 (by decide) ?_
              refine lv_istore (lv' := [(7, .int (0 : Int32)), (6, .int (0 : Int32)), (5, .int (1 : Int32)), (0, .ref (a 0)), (1, .int x), (2, .int y), (3, .int v3), (4, .int (nI i))]) hx hb d_M_passes_145 hl (by decide) rfl (fun ls hl => ?_)
              refine lv_iload_n hx hb d_M_passes_147 rfl (lv_at hl 6 rfl) ?_
              refine lv_if_ne (tgt := 166) hx hb d_M_passes_148 (by decide) (fun c_148 => ?_) (fun c_148 => ?_)
              · refine lv_iconst (v := (1 : Int32)) hx hb d_M_passes_166 (by decide) ?_
                refine lv_goto (tgt := 171) hx hb d_M_passes_167 (by decide) ?_
                refine lv_istore_n (lv' := [(3, .int (1 : Int32)), (7, .int (0 : Int32)), (6, .int (0 : Int32)), (5, .int (1 : Int32)), (0, .ref (a 0)), (1, .int x), (2, .int y), (4, .int (nI i))]) hx hb d_M_passes_171 rfl hl (by decide) rfl (fun ls hl => ?_)
                refine lv_iinc (v := nI (i + 1)) (lv' := [(4, .int (nI (i + 1))), (3, .int (1 : Int32)), (7, .int (0 : Int32)), (6, .int (0 : Int32)), (5, .int (1 : Int32)), (0, .ref (a 0)), (1, .int x), (2, .int y)]) hx hb d_M_passes_172 hl (k := 7) rfl (nI_1 i) (by decide) rfl (fun ls hl => ?_)
                refine lv_goto (tgt := 15) hx hb d_M_passes_175 (by decide) ?_
                have e_b : m_passes_15 N K B Q x y (k + 1) i v3 = m_passes_15 N K B Q x y k (i + 1) (1 : Int32) := by rw [m_passes_15_S, if_neg c_32, if_pos c_43, if_pos c_70, if_neg c_117, if_pos c_137, if_neg c_148]
                rw [e_b]
                exact ih (i + 1) (by omega) (1 : Int32) ls (by first | exact Or.inl rfl | exact Or.inr rfl) (lv_sub hl [5, 6, 7, 1, 0] rfl)
              · refine lv_iload hx hb d_M_passes_151 (lv_at hl 2 rfl) ?_
                refine lv_if_eq (tgt := 170) hx hb d_M_passes_153 (by decide) (fun c_153 => absurd c_153 (by decide)) (fun c_153 => ?_)
                refine lv_iload hx hb d_M_passes_156 (lv_at hl 1 rfl) ?_
                refine lv_if_ne (tgt := 166) hx hb d_M_passes_158 (by decide) (fun c_158 => absurd c_158 (by decide)) (fun c_158 => ?_)
                refine lv_iload hx hb d_M_passes_161 (lv_at hl 0 rfl) ?_
                refine lv_if_eq (tgt := 170) hx hb d_M_passes_163 (by decide) (fun c_163 => ?_) (fun c_163 => absurd c_163 (by decide))
                refine lv_iconst (v := (0 : Int32)) hx hb d_M_passes_170 (by decide) ?_
                refine lv_istore_n (lv' := [(3, .int (0 : Int32)), (7, .int (0 : Int32)), (6, .int (0 : Int32)), (5, .int (1 : Int32)), (0, .ref (a 0)), (1, .int x), (2, .int y), (4, .int (nI i))]) hx hb d_M_passes_171 rfl hl (by decide) rfl (fun ls hl => ?_)
                refine lv_iinc (v := nI (i + 1)) (lv' := [(4, .int (nI (i + 1))), (3, .int (0 : Int32)), (7, .int (0 : Int32)), (6, .int (0 : Int32)), (5, .int (1 : Int32)), (0, .ref (a 0)), (1, .int x), (2, .int y)]) hx hb d_M_passes_172 hl (k := 7) rfl (nI_1 i) (by decide) rfl (fun ls hl => ?_)
                refine lv_goto (tgt := 15) hx hb d_M_passes_175 (by decide) ?_
                have e_b : m_passes_15 N K B Q x y (k + 1) i v3 = m_passes_15 N K B Q x y k (i + 1) (0 : Int32) := by rw [m_passes_15_S, if_neg c_32, if_pos c_43, if_pos c_70, if_neg c_117, if_pos c_137, if_pos c_148]
                rw [e_b]
                exact ih (i + 1) (by omega) (0 : Int32) ls (by first | exact Or.inl rfl | exact Or.inr rfl) (lv_sub hl [5, 6, 7, 1, 0] rfl)
            · refine lv_iconst (v := (1 : Int32)) hx hb d_M_passes_140 (by decide) ?_
              refine lv_goto (tgt := 145) hx hb d_M_passes_141 (by decide) ?_
              refine lv_istore (lv' := [(7, .int (1 : Int32)), (6, .int (0 : Int32)), (5, .int (1 : Int32)), (0, .ref (a 0)), (1, .int x), (2, .int y), (3, .int v3), (4, .int (nI i))]) hx hb d_M_passes_145 hl (by decide) rfl (fun ls hl => ?_)
              refine lv_iload_n hx hb d_M_passes_147 rfl (lv_at hl 6 rfl) ?_
              refine lv_if_ne (tgt := 166) hx hb d_M_passes_148 (by decide) (fun c_148 => ?_) (fun c_148 => ?_)
              · refine lv_iconst (v := (1 : Int32)) hx hb d_M_passes_166 (by decide) ?_
                refine lv_goto (tgt := 171) hx hb d_M_passes_167 (by decide) ?_
                refine lv_istore_n (lv' := [(3, .int (1 : Int32)), (7, .int (1 : Int32)), (6, .int (0 : Int32)), (5, .int (1 : Int32)), (0, .ref (a 0)), (1, .int x), (2, .int y), (4, .int (nI i))]) hx hb d_M_passes_171 rfl hl (by decide) rfl (fun ls hl => ?_)
                refine lv_iinc (v := nI (i + 1)) (lv' := [(4, .int (nI (i + 1))), (3, .int (1 : Int32)), (7, .int (1 : Int32)), (6, .int (0 : Int32)), (5, .int (1 : Int32)), (0, .ref (a 0)), (1, .int x), (2, .int y)]) hx hb d_M_passes_172 hl (k := 7) rfl (nI_1 i) (by decide) rfl (fun ls hl => ?_)
                refine lv_goto (tgt := 15) hx hb d_M_passes_175 (by decide) ?_
                have e_b : m_passes_15 N K B Q x y (k + 1) i v3 = m_passes_15 N K B Q x y k (i + 1) (1 : Int32) := by rw [m_passes_15_S, if_neg c_32, if_pos c_43, if_pos c_70, if_neg c_117, if_neg c_137, if_neg c_148]
                rw [e_b]
                exact ih (i + 1) (by omega) (1 : Int32) ls (by first | exact Or.inl rfl | exact Or.inr rfl) (lv_sub hl [5, 6, 7, 1, 0] rfl)
              · refine lv_iload hx hb d_M_passes_151 (lv_at hl 2 rfl) ?_
                refine lv_if_eq (tgt := 170) hx hb d_M_passes_153 (by decide) (fun c_153 => absurd c_153 (by decide)) (fun c_153 => ?_)
                refine lv_iload hx hb d_M_passes_156 (lv_at hl 1 rfl) ?_
                refine lv_if_ne (tgt := 166) hx hb d_M_passes_158 (by decide) (fun c_158 => absurd c_158 (by decide)) (fun c_158 => ?_)
                refine lv_iload hx hb d_M_passes_161 (lv_at hl 0 rfl) ?_
                refine lv_if_eq (tgt := 170) hx hb d_M_passes_163 (by decide) (fun c_163 => absurd c_163 (by decide)) (fun c_163 => ?_)
                refine lv_iconst (v := (1 : Int32)) hx hb d_M_passes_166 (by decide) ?_
                refine lv_goto (tgt := 171) hx hb d_M_passes_167 (by decide) ?_
                refine lv_istore_n (lv' := [(3, .int (1 : Int32)), (7, .int (1 : Int32)), (6, .int (0 : Int32)), (5, .int (1 : Int32)), (0, .ref (a 0)), (1, .int x), (2, .int y), (4, .int (nI i))]) hx hb d_M_passes_171 rfl hl (by decide) rfl (fun ls hl => ?_)
                refine lv_iinc (v := nI (i + 1)) (lv' := [(4, .int (nI (i + 1))), (3, .int (1 : Int32)), (7, .int (1 : Int32)), (6, .int (0 : Int32)), (5, .int (1 : Int32)), (0, .ref (a 0)), (1, .int x), (2, .int y)]) hx hb d_M_passes_172 hl (k := 7) rfl (nI_1 i) (by decide) rfl (fun ls hl => ?_)
                refine lv_goto (tgt := 15) hx hb d_M_passes_175 (by decide) ?_
                have e_b : m_passes_15 N K B Q x y (k + 1) i v3 = m_passes_15 N K B Q x y k (i + 1) (1 : Int32) := by rw [m_passes_15_S, if_neg c_32, if_pos c_43, if_pos c_70, if_neg c_117, if_neg c_137, if_pos c_148]
                rw [e_b]
                exact ih (i + 1) (by omega) (1 : Int32) ls (by first | exact Or.inl rfl | exact Or.inr rfl) (lv_sub hl [5, 6, 7, 1, 0] rfl)
        · refine lv_aload_n hx hb d_M_passes_73 rfl (lv_at hl 1 rfl) ?_
          refine va_get (D := D) (ci := 1) (v := .ref (a 11)) (C := R_M) (T := F_M) (N := 16) hx hb hts i_M hown hK hP 0 rfl rfl 14 (by decide) (hts _ fl_M_40) (fun _ h9 => h9) rfl d_M_passes_74 ?_
          refine lv_bipush (v := (30 : Int32)) hx hb d_M_passes_77 (by decide) ?_
          refine lv_aload_n hx hb d_M_passes_79 rfl (lv_at hl 1 rfl) ?_
          refine va_get (D := D) (ci := 1) (v := .ref (a 5)) (C := R_M) (T := F_M) (N := 16) hx hb hts i_M hown hK hP 0 rfl rfl 6 (by decide) (hts _ fl_M_22) (fun _ h9 => h9) rfl d_M_passes_80 ?_
          refine lv_iload hx hb d_M_passes_83 (lv_at hl 5 rfl) ?_
          refine x_ialdN (n := 10) hx hb hK hP 5 0 rfl rfl (by omega) (by omega) d_M_passes_85 ?_
          refine lv_imul hx hb d_M_passes_86 ?_
          refine lv_iload_n hx hb d_M_passes_87 rfl (lv_at hl 3 rfl) ?_
          refine lv_iadd hx hb d_M_passes_88 ?_
          refine va_zald (n := 900) hx hb hK hP 11 1 rfl rfl (ls_in hN (dr4_i hDr (by omega)) (h_y)) d_M_passes_89 ?_
          refine lv_if_eq (tgt := 97) hx hb d_M_passes_90 (by decide) (fun c_90 => ?_) (fun c_90 => ?_)
          · refine lv_iconst (v := (0 : Int32)) hx hb d_M_passes_97 (by decide) ?_
            refine lv_istore (lv' := [(6, .int (0 : Int32)), (5, .int (1 : Int32)), (0, .ref (a 0)), (1, .int x), (2, .int y), (3, .int v3), (4, .int (nI i))]) hx hb d_M_passes_98 hl (by decide) rfl (fun ls hl => ?_)
            refine lv_aload_n hx hb d_M_passes_100 rfl (lv_at hl 2 rfl) ?_
            refine va_get (D := D) (ci := 1) (v := .ref (a 11)) (C := R_M) (T := F_M) (N := 16) hx hb hts i_M hown hK hP 0 rfl rfl 14 (by decide) (hts _ fl_M_40) (fun _ h9 => h9) rfl d_M_passes_101 ?_
            refine lv_bipush (v := (30 : Int32)) hx hb d_M_passes_104 (by decide) ?_
            refine lv_iload_n hx hb d_M_passes_106 rfl (lv_at hl 3 rfl) ?_
            refine lv_imul hx hb d_M_passes_107 ?_
            refine lv_aload_n hx hb d_M_passes_108 rfl (lv_at hl 2 rfl) ?_
            refine va_get (D := D) (ci := 1) (v := .ref (a 5)) (C := R_M) (T := F_M) (N := 16) hx hb hts i_M hown hK hP 0 rfl rfl 6 (by decide) (hts _ fl_M_22) (fun _ h9 => h9) rfl d_M_passes_109 ?_
            refine lv_iload hx hb d_M_passes_112 (lv_at hl 6 rfl) ?_
            refine x_ialdN (n := 10) hx hb hK hP 5 0 rfl rfl (by omega) (by omega) d_M_passes_114 ?_
            refine lv_iadd hx hb d_M_passes_115 ?_
            refine va_zald (n := 900) hx hb hK hP 11 1 rfl rfl (ls_in hN (h_x) (dr4_i hDr (by omega))) d_M_passes_116 ?_
            refine lv_if_eq (tgt := 144) hx hb d_M_passes_117 (by decide) (fun c_117 => ?_) (fun c_117 => ?_)
            · refine lv_iconst (v := (0 : Int32)) hx hb d_M_passes_144 (by decide) ?_
              refine lv_istore (lv' := [(7, .int (0 : Int32)), (6, .int (0 : Int32)), (5, .int (1 : Int32)), (0, .ref (a 0)), (1, .int x), (2, .int y), (3, .int v3), (4, .int (nI i))]) hx hb d_M_passes_145 hl (by decide) rfl (fun ls hl => ?_)
              refine lv_iload_n hx hb d_M_passes_147 rfl (lv_at hl 6 rfl) ?_
              refine lv_if_ne (tgt := 166) hx hb d_M_passes_148 (by decide) (fun c_148 => ?_) (fun c_148 => ?_)
              · refine lv_iconst (v := (1 : Int32)) hx hb d_M_passes_166 (by decide) ?_
                refine lv_goto (tgt := 171) hx hb d_M_passes_167 (by decide) ?_
                refine lv_istore_n (lv' := [(3, .int (1 : Int32)), (7, .int (0 : Int32)), (6, .int (0 : Int32)), (5, .int (1 : Int32)), (0, .ref (a 0)), (1, .int x), (2, .int y), (4, .int (nI i))]) hx hb d_M_passes_171 rfl hl (by decide) rfl (fun ls hl => ?_)
                refine lv_iinc (v := nI (i + 1)) (lv' := [(4, .int (nI (i + 1))), (3, .int (1 : Int32)), (7, .int (0 : Int32)), (6, .int (0 : Int32)), (5, .int (1 : Int32)), (0, .ref (a 0)), (1, .int x), (2, .int y)]) hx hb d_M_passes_172 hl (k := 7) rfl (nI_1 i) (by decide) rfl (fun ls hl => ?_)
                refine lv_goto (tgt := 15) hx hb d_M_passes_175 (by decide) ?_
                have e_b : m_passes_15 N K B Q x y (k + 1) i v3 = m_passes_15 N K B Q x y k (i + 1) (1 : Int32) := by rw [m_passes_15_S, if_neg c_32, if_pos c_43, if_neg c_70, if_pos c_90, if_pos c_117, if_neg c_148]
                rw [e_b]
                exact ih (i + 1) (by omega) (1 : Int32) ls (by first | exact Or.inl rfl | exact Or.inr rfl) (lv_sub hl [5, 6, 7, 1, 0] rfl)
              · refine lv_iload hx hb d_M_passes_151 (lv_at hl 2 rfl) ?_
                refine lv_if_eq (tgt := 170) hx hb d_M_passes_153 (by decide) (fun c_153 => absurd c_153 (by decide)) (fun c_153 => ?_)
                refine lv_iload hx hb d_M_passes_156 (lv_at hl 1 rfl) ?_
                refine lv_if_ne (tgt := 166) hx hb d_M_passes_158 (by decide) (fun c_158 => absurd c_158 (by decide)) (fun c_158 => ?_)
                refine lv_iload hx hb d_M_passes_161 (lv_at hl 0 rfl) ?_
                refine lv_if_eq (tgt := 170) hx hb d_M_passes_163 (by decide) (fun c_163 => ?_) (fun c_163 => absurd c_163 (by decide))
                refine lv_iconst (v := (0 : Int32)) hx hb d_M_passes_170 (by decide) ?_
                refine lv_istore_n (lv' := [(3, .int (0 : Int32)), (7, .int (0 : Int32)), (6, .int (0 : Int32)), (5, .int (1 : Int32)), (0, .ref (a 0)), (1, .int x), (2, .int y), (4, .int (nI i))]) hx hb d_M_passes_171 rfl hl (by decide) rfl (fun ls hl => ?_)
                refine lv_iinc (v := nI (i + 1)) (lv' := [(4, .int (nI (i + 1))), (3, .int (0 : Int32)), (7, .int (0 : Int32)), (6, .int (0 : Int32)), (5, .int (1 : Int32)), (0, .ref (a 0)), (1, .int x), (2, .int y)]) hx hb d_M_passes_172 hl (k := 7) rfl (nI_1 i) (by decide) rfl (fun ls hl => ?_)
                refine lv_goto (tgt := 15) hx hb d_M_passes_175 (by decide) ?_
                have e_b : m_passes_15 N K B Q x y (k + 1) i v3 = m_passes_15 N K B Q x y k (i + 1) (0 : Int32) := by rw [m_passes_15_S, if_neg c_32, if_pos c_43, if_neg c_70, if_pos c_90, if_pos c_117, if_pos c_148]
                rw [e_b]
                exact ih (i + 1) (by omega) (0 : Int32) ls (by first | exact Or.inl rfl | exact Or.inr rfl) (lv_sub hl [5, 6, 7, 1, 0] rfl)
            · refine lv_aload_n hx hb d_M_passes_120 rfl (lv_at hl 2 rfl) ?_
              refine va_get (D := D) (ci := 1) (v := .ref (a 11)) (C := R_M) (T := F_M) (N := 16) hx hb hts i_M hown hK hP 0 rfl rfl 14 (by decide) (hts _ fl_M_40) (fun _ h9 => h9) rfl d_M_passes_121 ?_
              refine lv_bipush (v := (30 : Int32)) hx hb d_M_passes_124 (by decide) ?_
              refine lv_aload_n hx hb d_M_passes_126 rfl (lv_at hl 2 rfl) ?_
              refine va_get (D := D) (ci := 1) (v := .ref (a 4)) (C := R_M) (T := F_M) (N := 16) hx hb hts i_M hown hK hP 0 rfl rfl 5 (by decide) (hts _ fl_M_19) (fun _ h9 => h9) rfl d_M_passes_127 ?_
              refine lv_iload hx hb d_M_passes_130 (lv_at hl 6 rfl) ?_
              refine x_ialdN (n := 10) hx hb hK hP 4 0 rfl rfl (by omega) (by omega) d_M_passes_132 ?_
              refine lv_imul hx hb d_M_passes_133 ?_
              refine lv_iload_n hx hb d_M_passes_134 rfl (lv_at hl 4 rfl) ?_
              refine lv_iadd hx hb d_M_passes_135 ?_
              refine va_zald (n := 900) hx hb hK hP 11 1 rfl rfl (ls_in hN (dr3_i hDr (by omega)) (h_y)) d_M_passes_136 ?_
              refine lv_if_eq (tgt := 144) hx hb d_M_passes_137 (by decide) (fun c_137 => ?_) (fun c_137 => ?_)
              · refine lv_iconst (v := (0 : Int32)) hx hb d_M_passes_144 (by decide) ?_
                refine lv_istore (lv' := [(7, .int (0 : Int32)), (6, .int (0 : Int32)), (5, .int (1 : Int32)), (0, .ref (a 0)), (1, .int x), (2, .int y), (3, .int v3), (4, .int (nI i))]) hx hb d_M_passes_145 hl (by decide) rfl (fun ls hl => ?_)
                refine lv_iload_n hx hb d_M_passes_147 rfl (lv_at hl 6 rfl) ?_
                refine lv_if_ne (tgt := 166) hx hb d_M_passes_148 (by decide) (fun c_148 => ?_) (fun c_148 => ?_)
                · refine lv_iconst (v := (1 : Int32)) hx hb d_M_passes_166 (by decide) ?_
                  refine lv_goto (tgt := 171) hx hb d_M_passes_167 (by decide) ?_
                  refine lv_istore_n (lv' := [(3, .int (1 : Int32)), (7, .int (0 : Int32)), (6, .int (0 : Int32)), (5, .int (1 : Int32)), (0, .ref (a 0)), (1, .int x), (2, .int y), (4, .int (nI i))]) hx hb d_M_passes_171 rfl hl (by decide) rfl (fun ls hl => ?_)
                  refine lv_iinc (v := nI (i + 1)) (lv' := [(4, .int (nI (i + 1))), (3, .int (1 : Int32)), (7, .int (0 : Int32)), (6, .int (0 : Int32)), (5, .int (1 : Int32)), (0, .ref (a 0)), (1, .int x), (2, .int y)]) hx hb d_M_passes_172 hl (k := 7) rfl (nI_1 i) (by decide) rfl (fun ls hl => ?_)
                  refine lv_goto (tgt := 15) hx hb d_M_passes_175 (by decide) ?_
                  have e_b : m_passes_15 N K B Q x y (k + 1) i v3 = m_passes_15 N K B Q x y k (i + 1) (1 : Int32) := by rw [m_passes_15_S, if_neg c_32, if_pos c_43, if_neg c_70, if_pos c_90, if_neg c_117, if_pos c_137, if_neg c_148]
                  rw [e_b]
                  exact ih (i + 1) (by omega) (1 : Int32) ls (by first | exact Or.inl rfl | exact Or.inr rfl) (lv_sub hl [5, 6, 7, 1, 0] rfl)
                · refine lv_iload hx hb d_M_passes_151 (lv_at hl 2 rfl) ?_
                  refine lv_if_eq (tgt := 170) hx hb d_M_passes_153 (by decide) (fun c_153 => absurd c_153 (by decide)) (fun c_153 => ?_)
                  refine lv_iload hx hb d_M_passes_156 (lv_at hl 1 rfl) ?_
                  refine lv_if_ne (tgt := 166) hx hb d_M_passes_158 (by decide) (fun c_158 => absurd c_158 (by decide)) (fun c_158 => ?_)
                  refine lv_iload hx hb d_M_passes_161 (lv_at hl 0 rfl) ?_
                  refine lv_if_eq (tgt := 170) hx hb d_M_passes_163 (by decide) (fun c_163 => ?_) (fun c_163 => absurd c_163 (by decide))
                  refine lv_iconst (v := (0 : Int32)) hx hb d_M_passes_170 (by decide) ?_
                  refine lv_istore_n (lv' := [(3, .int (0 : Int32)), (7, .int (0 : Int32)), (6, .int (0 : Int32)), (5, .int (1 : Int32)), (0, .ref (a 0)), (1, .int x), (2, .int y), (4, .int (nI i))]) hx hb d_M_passes_171 rfl hl (by decide) rfl (fun ls hl => ?_)
                  refine lv_iinc (v := nI (i + 1)) (lv' := [(4, .int (nI (i + 1))), (3, .int (0 : Int32)), (7, .int (0 : Int32)), (6, .int (0 : Int32)), (5, .int (1 : Int32)), (0, .ref (a 0)), (1, .int x), (2, .int y)]) hx hb d_M_passes_172 hl (k := 7) rfl (nI_1 i) (by decide) rfl (fun ls hl => ?_)
                  refine lv_goto (tgt := 15) hx hb d_M_passes_175 (by decide) ?_
                  have e_b : m_passes_15 N K B Q x y (k + 1) i v3 = m_passes_15 N K B Q x y k (i + 1) (0 : Int32) := by rw [m_passes_15_S, if_neg c_32, if_pos c_43, if_neg c_70, if_pos c_90, if_neg c_117, if_pos c_137, if_pos c_148]
                  rw [e_b]
                  exact ih (i + 1) (by omega) (0 : Int32) ls (by first | exact Or.inl rfl | exact Or.inr rfl) (lv_sub hl [5, 6, 7, 1, 0] rfl)
              · refine lv_iconst (v := (1 : Int32)) hx hb d_M_passes_140 (by decide) ?_
                refine lv_goto (tgt := 145) hx hb d_M_passes_141 (by decide) ?_
                refine lv_istore (lv' := [(7, .int (1 : Int32)), (6, .int (0 : Int32)), (5, .int (1 : Int32)), (0, .ref (a 0)), (1, .int x), (2, .int y), (3, .int v3), (4, .int (nI i))]) hx hb d_M_passes_145 hl (by decide) rfl (fun ls hl => ?_)
                refine lv_iload_n hx hb d_M_passes_147 rfl (lv_at hl 6 rfl) ?_
                refine lv_if_ne (tgt := 166) hx hb d_M_passes_148 (by decide) (fun c_148 => ?_) (fun c_148 => ?_)
                · refine lv_iconst (v := (1 : Int32)) hx hb d_M_passes_166 (by decide) ?_
                  refine lv_goto (tgt := 171) hx hb d_M_passes_167 (by decide) ?_
                  refine lv_istore_n (lv' := [(3, .int (1 : Int32)), (7, .int (1 : Int32)), (6, .int (0 : Int32)), (5, .int (1 : Int32)), (0, .ref (a 0)), (1, .int x), (2, .int y), (4, .int (nI i))]) hx hb d_M_passes_171 rfl hl (by decide) rfl (fun ls hl => ?_)
                  refine lv_iinc (v := nI (i + 1)) (lv' := [(4, .int (nI (i + 1))), (3, .int (1 : Int32)), (7, .int (1 : Int32)), (6, .int (0 : Int32)), (5, .int (1 : Int32)), (0, .ref (a 0)), (1, .int x), (2, .int y)]) hx hb d_M_passes_172 hl (k := 7) rfl (nI_1 i) (by decide) rfl (fun ls hl => ?_)
                  refine lv_goto (tgt := 15) hx hb d_M_passes_175 (by decide) ?_
                  have e_b : m_passes_15 N K B Q x y (k + 1) i v3 = m_passes_15 N K B Q x y k (i + 1) (1 : Int32) := by rw [m_passes_15_S, if_neg c_32, if_pos c_43, if_neg c_70, if_pos c_90, if_neg c_117, if_neg c_137, if_neg c_148]
                  rw [e_b]
                  exact ih (i + 1) (by omega) (1 : Int32) ls (by first | exact Or.inl rfl | exact Or.inr rfl) (lv_sub hl [5, 6, 7, 1, 0] rfl)
                · refine lv_iload hx hb d_M_passes_151 (lv_at hl 2 rfl) ?_
                  refine lv_if_eq (tgt := 170) hx hb d_M_passes_153 (by decide) (fun c_153 => absurd c_153 (by decide)) (fun c_153 => ?_)
                  refine lv_iload hx hb d_M_passes_156 (lv_at hl 1 rfl) ?_
                  refine lv_if_ne (tgt := 166) hx hb d_M_passes_158 (by decide) (fun c_158 => absurd c_158 (by decide)) (fun c_158 => ?_)
                  refine lv_iload hx hb d_M_passes_161 (lv_at hl 0 rfl) ?_
                  refine lv_if_eq (tgt := 170) hx hb d_M_passes_163 (by decide) (fun c_163 => absurd c_163 (by decide)) (fun c_163 => ?_)
                  refine lv_iconst (v := (1 : Int32)) hx hb d_M_passes_166 (by decide) ?_
                  refine lv_goto (tgt := 171) hx hb d_M_passes_167 (by decide) ?_
                  refine lv_istore_n (lv' := [(3, .int (1 : Int32)), (7, .int (1 : Int32)), (6, .int (0 : Int32)), (5, .int (1 : Int32)), (0, .ref (a 0)), (1, .int x), (2, .int y), (4, .int (nI i))]) hx hb d_M_passes_171 rfl hl (by decide) rfl (fun ls hl => ?_)
                  refine lv_iinc (v := nI (i + 1)) (lv' := [(4, .int (nI (i + 1))), (3, .int (1 : Int32)), (7, .int (1 : Int32)), (6, .int (0 : Int32)), (5, .int (1 : Int32)), (0, .ref (a 0)), (1, .int x), (2, .int y)]) hx hb d_M_passes_172 hl (k := 7) rfl (nI_1 i) (by decide) rfl (fun ls hl => ?_)
                  refine lv_goto (tgt := 15) hx hb d_M_passes_175 (by decide) ?_
                  have e_b : m_passes_15 N K B Q x y (k + 1) i v3 = m_passes_15 N K B Q x y k (i + 1) (1 : Int32) := by rw [m_passes_15_S, if_neg c_32, if_pos c_43, if_neg c_70, if_pos c_90, if_neg c_117, if_neg c_137, if_pos c_148]
                  rw [e_b]
                  exact ih (i + 1) (by omega) (1 : Int32) ls (by first | exact Or.inl rfl | exact Or.inr rfl) (lv_sub hl [5, 6, 7, 1, 0] rfl)
          · refine lv_iconst (v := (1 : Int32)) hx hb d_M_passes_93 (by decide) ?_
            refine lv_goto (tgt := 98) hx hb d_M_passes_94 (by decide) ?_
            refine lv_istore (lv' := [(6, .int (1 : Int32)), (5, .int (1 : Int32)), (0, .ref (a 0)), (1, .int x), (2, .int y), (3, .int v3), (4, .int (nI i))]) hx hb d_M_passes_98 hl (by decide) rfl (fun ls hl => ?_)
            refine lv_aload_n hx hb d_M_passes_100 rfl (lv_at hl 2 rfl) ?_
            refine va_get (D := D) (ci := 1) (v := .ref (a 11)) (C := R_M) (T := F_M) (N := 16) hx hb hts i_M hown hK hP 0 rfl rfl 14 (by decide) (hts _ fl_M_40) (fun _ h9 => h9) rfl d_M_passes_101 ?_
            refine lv_bipush (v := (30 : Int32)) hx hb d_M_passes_104 (by decide) ?_
            refine lv_iload_n hx hb d_M_passes_106 rfl (lv_at hl 3 rfl) ?_
            refine lv_imul hx hb d_M_passes_107 ?_
            refine lv_aload_n hx hb d_M_passes_108 rfl (lv_at hl 2 rfl) ?_
            refine va_get (D := D) (ci := 1) (v := .ref (a 5)) (C := R_M) (T := F_M) (N := 16) hx hb hts i_M hown hK hP 0 rfl rfl 6 (by decide) (hts _ fl_M_22) (fun _ h9 => h9) rfl d_M_passes_109 ?_
            refine lv_iload hx hb d_M_passes_112 (lv_at hl 6 rfl) ?_
            refine x_ialdN (n := 10) hx hb hK hP 5 0 rfl rfl (by omega) (by omega) d_M_passes_114 ?_
            refine lv_iadd hx hb d_M_passes_115 ?_
            refine va_zald (n := 900) hx hb hK hP 11 1 rfl rfl (ls_in hN (h_x) (dr4_i hDr (by omega))) d_M_passes_116 ?_
            refine lv_if_eq (tgt := 144) hx hb d_M_passes_117 (by decide) (fun c_117 => ?_) (fun c_117 => ?_)
            · refine lv_iconst (v := (0 : Int32)) hx hb d_M_passes_144 (by decide) ?_
              refine lv_istore (lv' := [(7, .int (0 : Int32)), (6, .int (1 : Int32)), (5, .int (1 : Int32)), (0, .ref (a 0)), (1, .int x), (2, .int y), (3, .int v3), (4, .int (nI i))]) hx hb d_M_passes_145 hl (by decide) rfl (fun ls hl => ?_)
              refine lv_iload_n hx hb d_M_passes_147 rfl (lv_at hl 6 rfl) ?_
              refine lv_if_ne (tgt := 166) hx hb d_M_passes_148 (by decide) (fun c_148 => ?_) (fun c_148 => ?_)
              · refine lv_iconst (v := (1 : Int32)) hx hb d_M_passes_166 (by decide) ?_
                refine lv_goto (tgt := 171) hx hb d_M_passes_167 (by decide) ?_
                refine lv_istore_n (lv' := [(3, .int (1 : Int32)), (7, .int (0 : Int32)), (6, .int (1 : Int32)), (5, .int (1 : Int32)), (0, .ref (a 0)), (1, .int x), (2, .int y), (4, .int (nI i))]) hx hb d_M_passes_171 rfl hl (by decide) rfl (fun ls hl => ?_)
                refine lv_iinc (v := nI (i + 1)) (lv' := [(4, .int (nI (i + 1))), (3, .int (1 : Int32)), (7, .int (0 : Int32)), (6, .int (1 : Int32)), (5, .int (1 : Int32)), (0, .ref (a 0)), (1, .int x), (2, .int y)]) hx hb d_M_passes_172 hl (k := 7) rfl (nI_1 i) (by decide) rfl (fun ls hl => ?_)
                refine lv_goto (tgt := 15) hx hb d_M_passes_175 (by decide) ?_
                have e_b : m_passes_15 N K B Q x y (k + 1) i v3 = m_passes_15 N K B Q x y k (i + 1) (1 : Int32) := by rw [m_passes_15_S, if_neg c_32, if_pos c_43, if_neg c_70, if_neg c_90, if_pos c_117, if_neg c_148]
                rw [e_b]
                exact ih (i + 1) (by omega) (1 : Int32) ls (by first | exact Or.inl rfl | exact Or.inr rfl) (lv_sub hl [5, 6, 7, 1, 0] rfl)
              · refine lv_iload hx hb d_M_passes_151 (lv_at hl 2 rfl) ?_
                refine lv_if_eq (tgt := 170) hx hb d_M_passes_153 (by decide) (fun c_153 => absurd c_153 (by decide)) (fun c_153 => ?_)
                refine lv_iload hx hb d_M_passes_156 (lv_at hl 1 rfl) ?_
                refine lv_if_ne (tgt := 166) hx hb d_M_passes_158 (by decide) (fun c_158 => ?_) (fun c_158 => absurd c_158 (by decide))
                refine lv_iconst (v := (1 : Int32)) hx hb d_M_passes_166 (by decide) ?_
                refine lv_goto (tgt := 171) hx hb d_M_passes_167 (by decide) ?_
                refine lv_istore_n (lv' := [(3, .int (1 : Int32)), (7, .int (0 : Int32)), (6, .int (1 : Int32)), (5, .int (1 : Int32)), (0, .ref (a 0)), (1, .int x), (2, .int y), (4, .int (nI i))]) hx hb d_M_passes_171 rfl hl (by decide) rfl (fun ls hl => ?_)
                refine lv_iinc (v := nI (i + 1)) (lv' := [(4, .int (nI (i + 1))), (3, .int (1 : Int32)), (7, .int (0 : Int32)), (6, .int (1 : Int32)), (5, .int (1 : Int32)), (0, .ref (a 0)), (1, .int x), (2, .int y)]) hx hb d_M_passes_172 hl (k := 7) rfl (nI_1 i) (by decide) rfl (fun ls hl => ?_)
                refine lv_goto (tgt := 15) hx hb d_M_passes_175 (by decide) ?_
                have e_b : m_passes_15 N K B Q x y (k + 1) i v3 = m_passes_15 N K B Q x y k (i + 1) (1 : Int32) := by rw [m_passes_15_S, if_neg c_32, if_pos c_43, if_neg c_70, if_neg c_90, if_pos c_117, if_pos c_148]
                rw [e_b]
                exact ih (i + 1) (by omega) (1 : Int32) ls (by first | exact Or.inl rfl | exact Or.inr rfl) (lv_sub hl [5, 6, 7, 1, 0] rfl)
            · refine lv_aload_n hx hb d_M_passes_120 rfl (lv_at hl 2 rfl) ?_
              refine va_get (D := D) (ci := 1) (v := .ref (a 11)) (C := R_M) (T := F_M) (N := 16) hx hb hts i_M hown hK hP 0 rfl rfl 14 (by decide) (hts _ fl_M_40) (fun _ h9 => h9) rfl d_M_passes_121 ?_
              refine lv_bipush (v := (30 : Int32)) hx hb d_M_passes_124 (by decide) ?_
              refine lv_aload_n hx hb d_M_passes_126 rfl (lv_at hl 2 rfl) ?_
              refine va_get (D := D) (ci := 1) (v := .ref (a 4)) (C := R_M) (T := F_M) (N := 16) hx hb hts i_M hown hK hP 0 rfl rfl 5 (by decide) (hts _ fl_M_19) (fun _ h9 => h9) rfl d_M_passes_127 ?_
              refine lv_iload hx hb d_M_passes_130 (lv_at hl 6 rfl) ?_
              refine x_ialdN (n := 10) hx hb hK hP 4 0 rfl rfl (by omega) (by omega) d_M_passes_132 ?_
              refine lv_imul hx hb d_M_passes_133 ?_
              refine lv_iload_n hx hb d_M_passes_134 rfl (lv_at hl 4 rfl) ?_
              refine lv_iadd hx hb d_M_passes_135 ?_
              refine va_zald (n := 900) hx hb hK hP 11 1 rfl rfl (ls_in hN (dr3_i hDr (by omega)) (h_y)) d_M_passes_136 ?_
              refine lv_if_eq (tgt := 144) hx hb d_M_passes_137 (by decide) (fun c_137 => ?_) (fun c_137 => ?_)
              · refine lv_iconst (v := (0 : Int32)) hx hb d_M_passes_144 (by decide) ?_
                refine lv_istore (lv' := [(7, .int (0 : Int32)), (6, .int (1 : Int32)), (5, .int (1 : Int32)), (0, .ref (a 0)), (1, .int x), (2, .int y), (3, .int v3), (4, .int (nI i))]) hx hb d_M_passes_145 hl (by decide) rfl (fun ls hl => ?_)
                refine lv_iload_n hx hb d_M_passes_147 rfl (lv_at hl 6 rfl) ?_
                refine lv_if_ne (tgt := 166) hx hb d_M_passes_148 (by decide) (fun c_148 => ?_) (fun c_148 => ?_)
                · refine lv_iconst (v := (1 : Int32)) hx hb d_M_passes_166 (by decide) ?_
                  refine lv_goto (tgt := 171) hx hb d_M_passes_167 (by decide) ?_
                  refine lv_istore_n (lv' := [(3, .int (1 : Int32)), (7, .int (0 : Int32)), (6, .int (1 : Int32)), (5, .int (1 : Int32)), (0, .ref (a 0)), (1, .int x), (2, .int y), (4, .int (nI i))]) hx hb d_M_passes_171 rfl hl (by decide) rfl (fun ls hl => ?_)
                  refine lv_iinc (v := nI (i + 1)) (lv' := [(4, .int (nI (i + 1))), (3, .int (1 : Int32)), (7, .int (0 : Int32)), (6, .int (1 : Int32)), (5, .int (1 : Int32)), (0, .ref (a 0)), (1, .int x), (2, .int y)]) hx hb d_M_passes_172 hl (k := 7) rfl (nI_1 i) (by decide) rfl (fun ls hl => ?_)
                  refine lv_goto (tgt := 15) hx hb d_M_passes_175 (by decide) ?_
                  have e_b : m_passes_15 N K B Q x y (k + 1) i v3 = m_passes_15 N K B Q x y k (i + 1) (1 : Int32) := by rw [m_passes_15_S, if_neg c_32, if_pos c_43, if_neg c_70, if_neg c_90, if_neg c_117, if_pos c_137, if_neg c_148]
                  rw [e_b]
                  exact ih (i + 1) (by omega) (1 : Int32) ls (by first | exact Or.inl rfl | exact Or.inr rfl) (lv_sub hl [5, 6, 7, 1, 0] rfl)
                · refine lv_iload hx hb d_M_passes_151 (lv_at hl 2 rfl) ?_
                  refine lv_if_eq (tgt := 170) hx hb d_M_passes_153 (by decide) (fun c_153 => absurd c_153 (by decide)) (fun c_153 => ?_)
                  refine lv_iload hx hb d_M_passes_156 (lv_at hl 1 rfl) ?_
                  refine lv_if_ne (tgt := 166) hx hb d_M_passes_158 (by decide) (fun c_158 => ?_) (fun c_158 => absurd c_158 (by decide))
                  refine lv_iconst (v := (1 : Int32)) hx hb d_M_passes_166 (by decide) ?_
                  refine lv_goto (tgt := 171) hx hb d_M_passes_167 (by decide) ?_
                  refine lv_istore_n (lv' := [(3, .int (1 : Int32)), (7, .int (0 : Int32)), (6, .int (1 : Int32)), (5, .int (1 : Int32)), (0, .ref (a 0)), (1, .int x), (2, .int y), (4, .int (nI i))]) hx hb d_M_passes_171 rfl hl (by decide) rfl (fun ls hl => ?_)
                  refine lv_iinc (v := nI (i + 1)) (lv' := [(4, .int (nI (i + 1))), (3, .int (1 : Int32)), (7, .int (0 : Int32)), (6, .int (1 : Int32)), (5, .int (1 : Int32)), (0, .ref (a 0)), (1, .int x), (2, .int y)]) hx hb d_M_passes_172 hl (k := 7) rfl (nI_1 i) (by decide) rfl (fun ls hl => ?_)
                  refine lv_goto (tgt := 15) hx hb d_M_passes_175 (by decide) ?_
                  have e_b : m_passes_15 N K B Q x y (k + 1) i v3 = m_passes_15 N K B Q x y k (i + 1) (1 : Int32) := by rw [m_passes_15_S, if_neg c_32, if_pos c_43, if_neg c_70, if_neg c_90, if_neg c_117, if_pos c_137, if_pos c_148]
                  rw [e_b]
                  exact ih (i + 1) (by omega) (1 : Int32) ls (by first | exact Or.inl rfl | exact Or.inr rfl) (lv_sub hl [5, 6, 7, 1, 0] rfl)
              · refine lv_iconst (v := (1 : Int32)) hx hb d_M_passes_140 (by decide) ?_
                refine lv_goto (tgt := 145) hx hb d_M_passes_141 (by decide) ?_
                refine lv_istore (lv' := [(7, .int (1 : Int32)), (6, .int (1 : Int32)), (5, .int (1 : Int32)), (0, .ref (a 0)), (1, .int x), (2, .int y), (3, .int v3), (4, .int (nI i))]) hx hb d_M_passes_145 hl (by decide) rfl (fun ls hl => ?_)
                refine lv_iload_n hx hb d_M_passes_147 rfl (lv_at hl 6 rfl) ?_
                refine lv_if_ne (tgt := 166) hx hb d_M_passes_148 (by decide) (fun c_148 => ?_) (fun c_148 => ?_)
                · refine lv_iconst (v := (1 : Int32)) hx hb d_M_passes_166 (by decide) ?_
                  refine lv_goto (tgt := 171) hx hb d_M_passes_167 (by decide) ?_
                  refine lv_istore_n (lv' := [(3, .int (1 : Int32)), (7, .int (1 : Int32)), (6, .int (1 : Int32)), (5, .int (1 : Int32)), (0, .ref (a 0)), (1, .int x), (2, .int y), (4, .int (nI i))]) hx hb d_M_passes_171 rfl hl (by decide) rfl (fun ls hl => ?_)
                  refine lv_iinc (v := nI (i + 1)) (lv' := [(4, .int (nI (i + 1))), (3, .int (1 : Int32)), (7, .int (1 : Int32)), (6, .int (1 : Int32)), (5, .int (1 : Int32)), (0, .ref (a 0)), (1, .int x), (2, .int y)]) hx hb d_M_passes_172 hl (k := 7) rfl (nI_1 i) (by decide) rfl (fun ls hl => ?_)
                  refine lv_goto (tgt := 15) hx hb d_M_passes_175 (by decide) ?_
                  have e_b : m_passes_15 N K B Q x y (k + 1) i v3 = m_passes_15 N K B Q x y k (i + 1) (1 : Int32) := by rw [m_passes_15_S, if_neg c_32, if_pos c_43, if_neg c_70, if_neg c_90, if_neg c_117, if_neg c_137, if_neg c_148]
                  rw [e_b]
                  exact ih (i + 1) (by omega) (1 : Int32) ls (by first | exact Or.inl rfl | exact Or.inr rfl) (lv_sub hl [5, 6, 7, 1, 0] rfl)
                · refine lv_iload hx hb d_M_passes_151 (lv_at hl 2 rfl) ?_
                  refine lv_if_eq (tgt := 170) hx hb d_M_passes_153 (by decide) (fun c_153 => absurd c_153 (by decide)) (fun c_153 => ?_)
                  refine lv_iload hx hb d_M_passes_156 (lv_at hl 1 rfl) ?_
                  refine lv_if_ne (tgt := 166) hx hb d_M_passes_158 (by decide) (fun c_158 => ?_) (fun c_158 => absurd c_158 (by decide))
                  refine lv_iconst (v := (1 : Int32)) hx hb d_M_passes_166 (by decide) ?_
                  refine lv_goto (tgt := 171) hx hb d_M_passes_167 (by decide) ?_
                  refine lv_istore_n (lv' := [(3, .int (1 : Int32)), (7, .int (1 : Int32)), (6, .int (1 : Int32)), (5, .int (1 : Int32)), (0, .ref (a 0)), (1, .int x), (2, .int y), (4, .int (nI i))]) hx hb d_M_passes_171 rfl hl (by decide) rfl (fun ls hl => ?_)
                  refine lv_iinc (v := nI (i + 1)) (lv' := [(4, .int (nI (i + 1))), (3, .int (1 : Int32)), (7, .int (1 : Int32)), (6, .int (1 : Int32)), (5, .int (1 : Int32)), (0, .ref (a 0)), (1, .int x), (2, .int y)]) hx hb d_M_passes_172 hl (k := 7) rfl (nI_1 i) (by decide) rfl (fun ls hl => ?_)
                  refine lv_goto (tgt := 15) hx hb d_M_passes_175 (by decide) ?_
                  have e_b : m_passes_15 N K B Q x y (k + 1) i v3 = m_passes_15 N K B Q x y k (i + 1) (1 : Int32) := by rw [m_passes_15_S, if_neg c_32, if_pos c_43, if_neg c_70, if_neg c_90, if_neg c_117, if_neg c_137, if_pos c_148]
                  rw [e_b]
                  exact ih (i + 1) (by omega) (1 : Int32) ls (by first | exact Or.inl rfl | exact Or.inr rfl) (lv_sub hl [5, 6, 7, 1, 0] rfl)
def m_passes (N : Nat) (K : Nat) (B : Nat → Nat → Int32) (Q : Nat → Nat → Int32) (x y : Int32) : Int32 := m_passes_15 N K B Q x y K 0 (Q 3 (((30 : Int32) * x) + y).toNatClampNeg)
set_option maxHeartbeats 4000000 in
set_option maxRecDepth 100000 in
theorem cm_passes (l : Launch) (D : va_G) (a : Nat → Nat) (cI cZ : ClassId) (N K : Nat) (B Q : Nat → Nat → Int32) (hN : N ≤ 30) (hKK : K ≤ 10) (hC : chs N B) (hDr : drM N K B) (x y : Int32) (h_x : ∃ j : Nat, j < N ∧ x = nI j) (h_y : ∃ j : Nat, j < N ∧ y = nI j) (hq : q01 Q) : Met l y_M_passes (Cond.code y_M_passes b_M_passes 8 (some .boolean) :: BW) ({ frames := 0, cells := 0, slots := 0, locals := 0 } : Room) (PcR D (wM a cI cZ (nI N) (nI K) B Q) (tM cI cZ) [.ref (a 0), .int x, .int y]) (vp_Si (fun r => r = m_passes N K B Q x y)) 0 0 (fun _ => False) := by
  refine roStart (by decide) rfl (Nat.le_of_ble_eq_true rfl) (fun p e s m below meth c Sx hr hlk hP hK ls hl => ?_)
  obtain ⟨hx, hb, hml, hown, hts⟩ := id Sx
  have hl : lv_has ls 8 [(0, .ref (a 0)), (1, .int x), (2, .int y)] := hl
  refine lv_aload_n hx hb d_M_passes_0 rfl (lv_at hl 0 rfl) ?_
  refine va_get (D := D) (ci := 1) (v := .ref (a 11)) (C := R_M) (T := F_M) (N := 16) hx hb hts i_M hown hK hP 0 rfl rfl 14 (by decide) (hts _ fl_M_40) (fun _ h9 => h9) rfl d_M_passes_1 ?_
  refine lv_bipush (v := (30 : Int32)) hx hb d_M_passes_4 (by decide) ?_
  refine lv_iload_n hx hb d_M_passes_6 rfl (lv_at hl 1 rfl) ?_
  refine lv_imul hx hb d_M_passes_7 ?_
  refine lv_iload_n hx hb d_M_passes_8 rfl (lv_at hl 2 rfl) ?_
  refine lv_iadd hx hb d_M_passes_9 ?_
  refine va_zald (n := 900) hx hb hK hP 11 1 rfl rfl (ls_in hN (h_x) (h_y)) d_M_passes_10 ?_
  refine lv_istore_n (lv' := [(3, .int (Q 3 (((30 : Int32) * x) + y).toNatClampNeg)), (0, .ref (a 0)), (1, .int x), (2, .int y)]) hx hb d_M_passes_11 rfl hl (by decide) rfl (fun ls hl => ?_)
  refine lv_iconst (v := (0 : Int32)) hx hb d_M_passes_12 (by decide) ?_
  refine lv_istore (lv' := [(4, .int (0 : Int32)), (3, .int (Q 3 (((30 : Int32) * x) + y).toNatClampNeg)), (0, .ref (a 0)), (1, .int x), (2, .int y)]) hx hb d_M_passes_13 hl (by decide) rfl (fun ls hl => ?_)
  have e_15 : m_passes N K B Q x y = m_passes_15 N K B Q x y K 0 (Q 3 (((30 : Int32) * x) + y).toNatClampNeg) := by rw [m_passes]
  rw [e_15]
  exact wm_passes_15 l D a cI cZ N K B Q hN hKK hC hDr x y h_x h_y hq Sx hr hlk hP hK K 0 (by omega) (Q 3 (((30 : Int32) * x) + y).toNatClampNeg) ls (q01_at hq (ls_in hN h_x h_y)) (lv_sub hl [2, 3, 4, 1, 0] rfl)

def m_isSeen (N : Nat) (K : Nat) (B : Nat → Nat → Int32) (Q : Nat → Nat → Int32) (who x : Int32) : Int32 := (if who = x then (0 : Int32) else (if (m_spaceOf N K B Q who) = (-1 : Int32) then (0 : Int32) else (if (m_spaceOf N K B Q x) = (-1 : Int32) then (0 : Int32) else (if (0 : Int32) < (B 2 (((4 : Int32) * x) + (2 : Int32)).toNatClampNeg) then (if (m_passes N K B Q (m_spaceOf N K B Q who) (m_spaceOf N K B Q x)) = (0 : Int32) then (0 : Int32) else (1 : Int32)) else (if (Q 4 (m_spaceOf N K B Q x).toNatClampNeg) = (0 : Int32) then (0 : Int32) else (if (m_passes N K B Q (m_spaceOf N K B Q who) (m_spaceOf N K B Q x)) = (0 : Int32) then (0 : Int32) else (1 : Int32)))))))
set_option maxHeartbeats 4000000 in
set_option maxRecDepth 100000 in
theorem cm_isSeen (l : Launch) (D : va_G) (a : Nat → Nat) (cI cZ : ClassId) (N K : Nat) (B Q : Nat → Nat → Int32) (hN : N ≤ 30) (hKK : K ≤ 10) (hC : chs N B) (hDr : drM N K B) (who x : Int32) (hw : ∃ j : Nat, j < N ∧ who = nI j) (h_x : ∃ j : Nat, j < N ∧ x = nI j) (hq : q01 Q) : Met l y_M_isSeen (Cond.code y_M_isSeen b_M_isSeen 5 (some .boolean) :: BW) ({ frames := 5, cells := 0, slots := 0, locals := 108 } : Room) (PcR D (wM a cI cZ (nI N) (nI K) B Q) (tM cI cZ) [.ref (a 0), .int who, .int x]) (vp_Si (fun r => r = m_isSeen N K B Q who x)) 0 0 (fun _ => False) := by
  refine roStart (by decide) rfl (Nat.le_of_ble_eq_true rfl) (fun p e s m below meth c Sx hr hlk hP hK ls hl => ?_)
  obtain ⟨hx, hb, hml, hown, hts⟩ := id Sx
  have hl : lv_has ls 5 [(0, .ref (a 0)), (1, .int who), (2, .int x)] := hl
  refine lv_aload_n hx hb d_M_isSeen_0 rfl (lv_at hl 0 rfl) ?_
  refine lv_iload_n hx hb d_M_isSeen_1 rfl (lv_at hl 1 rfl) ?_
  refine xro (As := [.int who]) (rest := []) Sx (cm_spaceOf l D a cI cZ N K B Q hN hKK hC hDr who (hw)) v_M_spaceOf ⟨rfl, rfl, Nat.le_of_ble_eq_true rfl, Nat.le_of_ble_eq_true rfl⟩ hK hP (ci := 1) (q0 := 0) rfl rfl rfl hl.1 rfl (Nat.le_of_ble_eq_true rfl) d_M_isSeen_2 ⟨Nat.le_of_ble_eq_true rfl, Nat.le_of_ble_eq_true rfl⟩ (fun r hq => ?_)
  subst hq
  refine lv_istore_n (lv' := [(3, .int (m_spaceOf N K B Q who)), (0, .ref (a 0)), (1, .int who), (2, .int x)]) hx hb d_M_isSeen_5 rfl hl (by decide) rfl (fun ls hl => ?_)
  refine lv_aload_n hx hb d_M_isSeen_6 rfl (lv_at hl 1 rfl) ?_
  refine lv_iload_n hx hb d_M_isSeen_7 rfl (lv_at hl 3 rfl) ?_
  refine xro (As := [.int x]) (rest := []) Sx (cm_spaceOf l D a cI cZ N K B Q hN hKK hC hDr x (h_x)) v_M_spaceOf ⟨rfl, rfl, Nat.le_of_ble_eq_true rfl, Nat.le_of_ble_eq_true rfl⟩ hK hP (ci := 1) (q0 := 0) rfl rfl rfl hl.1 rfl (Nat.le_of_ble_eq_true rfl) d_M_isSeen_8 ⟨Nat.le_of_ble_eq_true rfl, Nat.le_of_ble_eq_true rfl⟩ (fun r hq => ?_)
  subst hq
  refine lv_istore (lv' := [(4, .int (m_spaceOf N K B Q x)), (3, .int (m_spaceOf N K B Q who)), (0, .ref (a 0)), (1, .int who), (2, .int x)]) hx hb d_M_isSeen_11 hl (by decide) rfl (fun ls hl => ?_)
  refine lv_iload_n hx hb d_M_isSeen_13 rfl (lv_at hl 3 rfl) ?_
  refine lv_iload_n hx hb d_M_isSeen_14 rfl (lv_at hl 4 rfl) ?_
  refine lv_icmp_eq (tgt := 66) hx hb d_M_isSeen_15 (by decide) (fun c_15 => ?_) (fun c_15 => ?_)
  · refine lv_iconst (v := (0 : Int32)) hx hb d_M_isSeen_66 (by decide) ?_
    exact roRet hx hb hr (by first | rfl | decide) hlk (show (0 : Int32) = m_isSeen N K B Q who x from by rw [m_isSeen, if_pos c_15]) d_M_isSeen_67
  · refine lv_iload_n hx hb d_M_isSeen_18 rfl (lv_at hl 1 rfl) ?_
    refine lv_iconst (v := (-1 : Int32)) hx hb d_M_isSeen_19 (by decide) ?_
    refine lv_icmp_eq (tgt := 66) hx hb d_M_isSeen_20 (by decide) (fun c_20 => ?_) (fun c_20 => ?_)
    · refine lv_iconst (v := (0 : Int32)) hx hb d_M_isSeen_66 (by decide) ?_
      exact roRet hx hb hr (by first | rfl | decide) hlk (show (0 : Int32) = m_isSeen N K B Q who x from by rw [m_isSeen, if_neg c_15, if_pos c_20]) d_M_isSeen_67
    · refine lv_iload hx hb d_M_isSeen_23 (lv_at hl 0 rfl) ?_
      refine lv_iconst (v := (-1 : Int32)) hx hb d_M_isSeen_25 (by decide) ?_
      refine lv_icmp_eq (tgt := 66) hx hb d_M_isSeen_26 (by decide) (fun c_26 => ?_) (fun c_26 => ?_)
      · refine lv_iconst (v := (0 : Int32)) hx hb d_M_isSeen_66 (by decide) ?_
        exact roRet hx hb hr (by first | rfl | decide) hlk (show (0 : Int32) = m_isSeen N K B Q who x from by rw [m_isSeen, if_neg c_15, if_neg c_20, if_pos c_26]) d_M_isSeen_67
      · refine lv_aload_n hx hb d_M_isSeen_29 rfl (lv_at hl 2 rfl) ?_
        refine va_get (D := D) (ci := 1) (v := .ref (a 3)) (C := R_M) (T := F_M) (N := 16) hx hb hts i_M hown hK hP 0 rfl rfl 3 (by decide) (hts _ fl_M_16) (fun _ h9 => h9) rfl d_M_isSeen_30 ?_
        refine lv_iconst (v := (4 : Int32)) hx hb d_M_isSeen_33 (by decide) ?_
        refine lv_iload_n hx hb d_M_isSeen_34 rfl (lv_at hl 4 rfl) ?_
        refine lv_imul hx hb d_M_isSeen_35 ?_
        refine lv_iconst (v := (2 : Int32)) hx hb d_M_isSeen_36 (by decide) ?_
        refine lv_iadd hx hb d_M_isSeen_37 ?_
        refine va_iald (n := 120) hx hb hK hP 3 0 rfl rfl (stk_in hN (h_x) 2 (by omega) rfl) d_M_isSeen_38 ?_
        refine lv_if_gt (tgt := 52) hx hb d_M_isSeen_39 (by decide) (fun c_39 => ?_) (fun c_39 => ?_)
        · refine lv_aload_n hx hb d_M_isSeen_52 rfl (lv_at hl 2 rfl) ?_
          refine lv_iload_n hx hb d_M_isSeen_53 rfl (lv_at hl 1 rfl) ?_
          refine lv_iload hx hb d_M_isSeen_54 (lv_at hl 0 rfl) ?_
          refine xro (As := [.int (m_spaceOf N K B Q who), .int (m_spaceOf N K B Q x)]) (rest := []) Sx (cm_passes l D a cI cZ N K B Q hN hKK hC hDr (m_spaceOf N K B Q who) (m_spaceOf N K B Q x) (spaceOfM_j hN hC (hw) c_20) (spaceOfM_j hN hC (h_x) c_26) (hq)) v_M_passes ⟨rfl, rfl, Nat.le_of_ble_eq_true rfl, Nat.le_of_ble_eq_true rfl⟩ hK hP (ci := 1) (q0 := 0) rfl rfl rfl hl.1 rfl (Nat.le_of_ble_eq_true rfl) d_M_isSeen_56 ⟨Nat.le_of_ble_eq_true rfl, Nat.le_of_ble_eq_true rfl⟩ (fun r hq => ?_)
          subst hq
          refine lv_if_eq (tgt := 66) hx hb d_M_isSeen_59 (by decide) (fun c_59 => ?_) (fun c_59 => ?_)
          · refine lv_iconst (v := (0 : Int32)) hx hb d_M_isSeen_66 (by decide) ?_
            exact roRet hx hb hr (by first | rfl | decide) hlk (show (0 : Int32) = m_isSeen N K B Q who x from by rw [m_isSeen, if_neg c_15, if_neg c_20, if_neg c_26, if_pos c_39, if_pos c_59]) d_M_isSeen_67
          · refine lv_iconst (v := (1 : Int32)) hx hb d_M_isSeen_62 (by decide) ?_
            refine lv_goto (tgt := 67) hx hb d_M_isSeen_63 (by decide) ?_
            exact roRet hx hb hr (by first | rfl | decide) hlk (show (1 : Int32) = m_isSeen N K B Q who x from by rw [m_isSeen, if_neg c_15, if_neg c_20, if_neg c_26, if_pos c_39, if_neg c_59]) d_M_isSeen_67
        · refine lv_aload_n hx hb d_M_isSeen_42 rfl (lv_at hl 2 rfl) ?_
          refine va_get (D := D) (ci := 1) (v := .ref (a 12)) (C := R_M) (T := F_M) (N := 16) hx hb hts i_M hown hK hP 0 rfl rfl 15 (by decide) (hts _ fl_M_44) (fun _ h9 => h9) rfl d_M_isSeen_43 ?_
          refine lv_iload hx hb d_M_isSeen_46 (lv_at hl 0 rfl) ?_
          refine va_zald (n := 30) hx hb hK hP 12 1 rfl rfl (th_in hN (spaceOfM_j hN hC (h_x) c_26)) d_M_isSeen_48 ?_
          refine lv_if_eq (tgt := 66) hx hb d_M_isSeen_49 (by decide) (fun c_49 => ?_) (fun c_49 => ?_)
          · refine lv_iconst (v := (0 : Int32)) hx hb d_M_isSeen_66 (by decide) ?_
            exact roRet hx hb hr (by first | rfl | decide) hlk (show (0 : Int32) = m_isSeen N K B Q who x from by rw [m_isSeen, if_neg c_15, if_neg c_20, if_neg c_26, if_neg c_39, if_pos c_49]) d_M_isSeen_67
          · refine lv_aload_n hx hb d_M_isSeen_52 rfl (lv_at hl 2 rfl) ?_
            refine lv_iload_n hx hb d_M_isSeen_53 rfl (lv_at hl 1 rfl) ?_
            refine lv_iload hx hb d_M_isSeen_54 (lv_at hl 0 rfl) ?_
            refine xro (As := [.int (m_spaceOf N K B Q who), .int (m_spaceOf N K B Q x)]) (rest := []) Sx (cm_passes l D a cI cZ N K B Q hN hKK hC hDr (m_spaceOf N K B Q who) (m_spaceOf N K B Q x) (spaceOfM_j hN hC (hw) c_20) (spaceOfM_j hN hC (h_x) c_26) (hq)) v_M_passes ⟨rfl, rfl, Nat.le_of_ble_eq_true rfl, Nat.le_of_ble_eq_true rfl⟩ hK hP (ci := 1) (q0 := 0) rfl rfl rfl hl.1 rfl (Nat.le_of_ble_eq_true rfl) d_M_isSeen_56 ⟨Nat.le_of_ble_eq_true rfl, Nat.le_of_ble_eq_true rfl⟩ (fun r hq => ?_)
            subst hq
            refine lv_if_eq (tgt := 66) hx hb d_M_isSeen_59 (by decide) (fun c_59 => ?_) (fun c_59 => ?_)
            · refine lv_iconst (v := (0 : Int32)) hx hb d_M_isSeen_66 (by decide) ?_
              exact roRet hx hb hr (by first | rfl | decide) hlk (show (0 : Int32) = m_isSeen N K B Q who x from by rw [m_isSeen, if_neg c_15, if_neg c_20, if_neg c_26, if_neg c_39, if_neg c_49, if_pos c_59]) d_M_isSeen_67
            · refine lv_iconst (v := (1 : Int32)) hx hb d_M_isSeen_62 (by decide) ?_
              refine lv_goto (tgt := 67) hx hb d_M_isSeen_63 (by decide) ?_
              exact roRet hx hb hr (by first | rfl | decide) hlk (show (1 : Int32) = m_isSeen N K B Q who x from by rw [m_isSeen, if_neg c_15, if_neg c_20, if_neg c_26, if_neg c_39, if_neg c_49, if_neg c_59]) d_M_isSeen_67
