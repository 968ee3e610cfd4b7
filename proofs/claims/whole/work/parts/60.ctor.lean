/-! Making the two objects: their constructors. -/
def va_OV (U : State) : Prop := (Cond.arrayOver (.array .int)).before #[] U = true
theorem va_OV.moved {u U : State} (hvm : u.vm.Alike U.vm) (h : va_OV u) : va_OV U := Jvm.Stand.arrayOver_alikeB hvm h
theorem va_OV.use {A : Array Value} {U : State} (h : va_OV U) : (Cond.arrayOver (.array .int)).before A U = true := h
theorem outer_row (c : ClassId) (N h0 : Nat) : ∀ i : Nat, Jvm.Free.Multi.outerC c N h0 i = arrV c N (fun j => va_rf (if j < i then some (h0 + 1 + j) else none))
  | 0 => by
    show ({ cls := c, slots := Array.replicate N .null, vm := .none } : Cell) = _
    rw [arrV_new]
    exact congrArg (arrV c N) (funext fun j => by simp [va_rf])
  | i + 1 => by
    show (Jvm.Free.Multi.outerC c N h0 i).setSlot i (.ref (h0 + 1 + i)) = _
    rw [outer_row c N h0 i, arrV_store]
    refine congrArg (arrV c N) (funext fun j => ?_)
    by_cases e : j = i
    · subst e; simp [updV, va_rf]
    · by_cases h : j < i
      · simp [updV, e, h, Nat.lt_succ_of_lt h]
      · simp [updV, e, h, show ¬ j < i + 1 by omega]
section NW
variable {p : Program} {l : Launch} {e : Env} {R : Room} {s : State} {m : MethodId} {args : Array Value} {below : List Frame} {meth : Method} {c : Code} {H H0 : Heap} {locs : List Loc} {cells slots : Nat} {Q : State → Prop}
variable {cc : ByteArray} {pc : Nat} {ls : Array Slot} {rest : List Value} {D : va_G} {cl : List vw_C} {A : Nat → Prop} {tys : List (ClassId × FieldType)} {ws : va_W}
/-- a new array whose class is known already -/
theorem x_newT {ty : FieldType} {cA0 : ClassId} {atype : ArrayType} (hty : newarray.typeOf atype = ty) (hro : ∀ (U : State) (c : ClassId), va_RA U c ty = (U.vm.findClass ("[" ++ ty.toString) = some c)) (hx : p.tables.exec = Jvm.exec) (hb : c.code = cc) (harr : (Cond.arrayClass (newarray.typeOf atype)).before args s = true) (hK : va_K D cl tys s) (hP : va_P D cl ws H) (hD : va_D A ws) (hS : va_S A H0 H locs) (hA : ∀ q, H0.size ≤ q → A q) (t0 : Nat) (ht : tys[t0]? = some (cA0, ty))
    {n : Int32} {N' : Nat} {a0 : vp_A} (ha : ∀ cA : ClassId, vp_cell cA a0 = arrV cA N' (fun _ => defaultValue ty)) (hn : ¬ n < 0) (hN : n.toNatClampNeg = N') (hbytes : N' * componentBytes ty ≤ 536870912) (hcells : cells + 1 ≤ R.cells) (hslots : slots + N' ≤ R.slots) (hdg : decode cc pc = .ok (.newarray atype, 2))
    (kk : ∀ (q : Nat) (H1 : Heap), va_P D cl (ws ++ [(q, .inl (cA0, a0))]) H1 → va_D A (ws ++ [(q, .inl (cA0, a0))]) → va_S A H0 H1 locs →
      W p l e R s m args below meth c H1 locs (cells + 1) (slots + N') Q (F0 m (pc + 2) ls (.ref q :: rest))) : W p l e R s m args below meth c H locs cells slots Q (F0 m pc ls (.int n :: rest)) := by
  refine va_newa hx hb harr hty hK hP hD hS hA ha hn hN hbytes hcells hslots hdg (fun q cA H1 hK1 hP1 hD1 hS1 => ?_)
  have e : cA = cA0 := by
    have h1 := (hK1.2 tys.length (cA, ty) (by simp)).2
    have h2 := (hK.2 t0 _ ht).2
    rw [hro] at h1 h2
    exact Option.some.inj (h1.symm.trans h2)
  subst e
  exact kk q H1 hP1 hD1 hS1
/-- new int[n][k], its rows laid behind the outer one -/
theorem x_mna {own : String} {index : Nat} {cy : ClassId} (hx : p.tables.exec = Jvm.exec) (hb : c.code = cc) (hown : s.vm.findClass own = some m.cls) (hclink : (Cond.classLink own index "[[I").before args s = true) (hO : va_OV s) (harr : (Cond.arrayClass .int).before args s = true)
    (hK : va_K D cl tys s) (hP : va_P D cl ws H) (hD : va_D A ws) (hS : va_S A H0 H locs) (hA : ∀ q, H0.size ≤ q → A q) (t0 : Nat) (ht : tys[t0]? = some (cy, .int)) {n k : Int32} {N' K' : Nat} (hn : ¬ n < 0) (hk : ¬ k < 0) (hN : n.toNatClampNeg = N') (hM : k.toNatClampNeg = K')
    (hb1 : N' * 4 ≤ 536870912) (hb2 : K' * componentBytes .int ≤ 536870912) (hb3 : K' ≤ 536870912) (hcells : cells + (1 + N') ≤ R.cells) (hslots : slots + (N' + N' * K') ≤ R.slots) (hdg : decode cc pc = .ok (.multianewarray index 2, 4))
    (kk : ∀ (q : Nat) (r : Nat → Nat) (cA : ClassId) (H1 : Heap), va_K D cl (tys ++ [(cA, .array .int)]) s →
      va_P D cl ((ws ++ [(q, .inl (cA, N', .inr (.inr (.inr (.inr (fun i => if i < N' then some (r i) else none))))))]) ++ (List.range N').map (fun i => (r i, .inl (cy, K', .inl (fun _ => (0 : Int32)))))) H1 → va_D A ((ws ++ [(q, .inl (cA, N', .inr (.inr (.inr (.inr (fun i => if i < N' then some (r i) else none))))))]) ++ (List.range N').map (fun i => (r i, .inl (cy, K', .inl (fun _ => (0 : Int32)))))) → va_S A H0 H1 locs →
      W p l e R s m args below meth c H1 locs (cells + 1 + N') (slots + N' + N' * K') Q (F0 m (pc + 4) ls (.ref q :: rest))) : W p l e R s m args below meth c H locs cells slots Q (F0 m pc ls (.int k :: .int n :: rest)) := by
  subst hN
  subst hM
  intro T hT Xs
  obtain ⟨vm₁, cA, comp, -, fA, fC, hOu, -, X', step⟩ := Xs.multianewarray2F hx (ty := .int) hown hclink hO.use harr (g := F0 m pc ls (.int k :: .int n :: rest)) rfl (by rw [hb]; exact hdg) rfl hn hk hb1 hb2 hb3 rfl rfl hcells hslots
  have ec : some cy = some comp := ((hK.2 t0 _ ht).2).symm.trans fC
  cases ec
  generalize hF : Jvm.Free.Multi.fill (T.setVm vm₁) cA cy n.toNatClampNeg k.toNatClampNeg (defaultValue .int) n.toNatClampNeg = F at X' step
  have hTh : (T.setVm vm₁).heap = H := hT
  obtain ⟨f1, f2, -, -⟩ := Jvm.Free.Multi.fill_facts (T.setVm vm₁) cA cy n.toNatClampNeg k.toNatClampNeg (defaultValue .int) n.toNatClampNeg
  rw [hF, hTh] at f1 f2
  have hold : ∀ x : Nat, x < H.size → F.heap[x]? = H[x]? := fun x hx => by
    have := Jvm.Free.Multi.fill_old (T.setVm vm₁) cA cy n.toNatClampNeg k.toNatClampNeg (defaultValue .int) (a := x) (by rw [hTh]; exact hx) n.toNatClampNeg
    rw [hF, hTh] at this
    exact this
  have hrow : ∀ j : Nat, j < n.toNatClampNeg → F.heap[H.size + 1 + j]? = some (vp_cell cy (k.toNatClampNeg, .inl (fun _ => (0 : Int32)))) := fun j hj => by
    have := Jvm.Free.Multi.fill_inner (T.setVm vm₁) cA cy n.toNatClampNeg k.toNatClampNeg (defaultValue .int) n.toNatClampNeg j hj
    rw [hF, hTh] at this
    rw [this, vp_cell_i]
    exact congrArg some (arrV_new _ _ _)
  have hout : Jvm.Free.Multi.outerC cA n.toNatClampNeg H.size n.toNatClampNeg = vp_cell cA (n.toNatClampNeg, .inr (.inr (.inr (.inr (fun i => if i < n.toNatClampNeg then some (H.size + 1 + i) else none))))) := by
    rw [vp_cell_q]
    exact outer_row cA n.toNatClampNeg H.size n.toNatClampNeg
  rw [hout] at f2
  generalize hE : (.inl (cA, n.toNatClampNeg, .inr (.inr (.inr (.inr (fun i => if i < n.toNatClampNeg then some (H.size + 1 + i) else none))))) : va_E) = E
  have hP0 : va_P D cl ws F.heap := hP.kept (fun k9 x hx => hold x.1 ((hP k9 x hx).lt))
  have hP1 : va_P D cl (ws ++ [(H.size, E)]) F.heap := hP0.app (fun k9 x hx => by
    have h0 : k9 < 1 := (List.getElem?_eq_some_iff.mp hx).1
    rw [show k9 = 0 by omega] at hx
    cases hx
    rw [← hE]
    exact f2)
  have hP2 : va_P D cl ((ws ++ [(H.size, E)]) ++ (List.range n.toNatClampNeg).map (fun i => (H.size + 1 + i, .inl (cy, k.toNatClampNeg, .inl (fun _ => (0 : Int32)))))) F.heap := hP1.app (fun k9 x hx => by
    obtain ⟨i, hi, rfl⟩ := List.mem_map.mp (List.mem_of_getElem? hx)
    exact hrow i (List.mem_range.mp hi))
  have hD1 := hD.push (e := E) hP rfl (hA _ hS.1)
  have hle : ∀ (k9 : Nat) (x : Nat × va_E), (ws ++ [(H.size, E)])[k9]? = some x → x.1 ≤ H.size := fun k9 x hx => by
    by_cases hl : k9 < ws.length
    · rw [List.getElem?_append_left hl] at hx
      exact Nat.le_of_lt ((hP k9 x hx).lt)
    · rw [List.getElem?_append_right (by omega)] at hx
      have h0 : k9 - ws.length < 1 := (List.getElem?_eq_some_iff.mp hx).1
      rw [show k9 - ws.length = 0 by omega] at hx
      cases hx
      exact Nat.le_refl _
  have hr : ∀ (k9 : Nat) (x : Nat × va_E), ((List.range n.toNatClampNeg).map (fun i => ((H.size + 1 + i, .inl (cy, k.toNatClampNeg, .inl (fun _ => (0 : Int32)))) : Nat × va_E)))[k9]? = some x → x.1 = H.size + 1 + k9 := fun k9 x hx => by
    rw [List.getElem?_map] at hx
    by_cases h9 : k9 < n.toNatClampNeg
    · rw [List.getElem?_range h9] at hx
      cases hx
      rfl
    · have hn0 : (List.range n.toNatClampNeg)[k9]? = none := List.getElem?_eq_none (by rw [List.length_range]; omega)
      rw [hn0] at hx
      cases hx
  have hD2 : va_D A ((ws ++ [(H.size, E)]) ++ (List.range n.toNatClampNeg).map (fun i => (H.size + 1 + i, .inl (cy, k.toNatClampNeg, .inl (fun _ => (0 : Int32)))))) := by
    refine hD1.app ⟨fun i j x y hi hj hxy => ?_, fun k9 x hx => ?_⟩ (fun i j x y hi hj => ?_)
    · have := hr _ _ hi
      have := hr _ _ hj
      omega
    · have := hr _ _ hx
      exact hA _ (by have := hS.1; omega)
    · have := hle _ _ hi
      have := hr _ _ hj
      omega
  have hAr : ArrOfT s cA (.array .int) := fun N9 z9 => by
    obtain ⟨-, k9, hk9, cm9, hkk9⟩ := (hOu 0 0 0).1
    exact ⟨(fun q hq => by cases hq), k9, hk9, cm9, hkk9⟩
  have hK2 : va_K D cl (tys ++ [(cA, .array .int)]) s := ⟨hK.1, fun k9 x hx => by
    by_cases hl : k9 < tys.length
    · rw [List.getElem?_append_left hl] at hx
      exact hK.2 k9 x hx
    · rw [List.getElem?_append_right (by omega)] at hx
      have h0 : k9 - tys.length < 1 := (List.getElem?_eq_some_iff.mp hx).1
      rw [show k9 - tys.length = 0 by omega] at hx
      cases hx
      exact ⟨hAr, fA⟩⟩
  rw [← hE] at hP2 hD2
  obtain ⟨t, a1, b1⟩ := kk H.size (fun i => H.size + 1 + i) cA F.heap hK2 hP2 hD2 ⟨by rw [f1]; have := hS.1; omega, fun x h1 h2 => (hold x (Nat.lt_of_lt_of_le h1 hS.1)).trans (hS.2.1 x h1 h2), hS.2.2⟩ F rfl X'
  refine ⟨t, step t ?_, b1⟩
  have e : T.heap.size = H.size := by rw [hT]
  rw [e]
  exact a1
end NW
def nw_C (h0 : Nat) : va_W := [(h0, .inr (0, [.int 0, .null, .null, .null, .int 0, .null, .null, .null, .null]))]
abbrev Pn_C (D : va_G) (h0 sz : Nat) : Array Value → State → Prop := va_Pc [.ref h0] (fun U => U.heap.size = sz ∧ va_P D classes (nw_C h0) U.heap ∧ va_K D classes [] U ∧ va_D (fun _ => True) (nw_C h0) ∧ va_OV U)
abbrev Bn_C (D : va_G) (A : Nat → Prop) (u : (Nat → Nat) × ClassId × ClassId) (t : State) : Prop := va_P D classes (wC u.1 u.2.1 u.2.2 0 0 (fun _ _ => 0)) t.heap ∧ va_K D classes (tC u.2.1 u.2.2) t ∧ va_D A (wC u.1 u.2.1 u.2.2 0 0 (fun _ _ => 0))
set_option maxHeartbeats 4000000 in
set_option maxRecDepth 100000 in
theorem c_C_init (l : Launch) (D : va_G) (h0 sz : Nat) : Met l y_C_init (Cond.code y_C_init b_C_init 1 none :: BW) ({ frames := 1, cells := 13, slots := 256, locals := 12 } : Room) (Pn_C D h0 sz) (va_Qv (fun u : (Nat → Nat) × ClassId × ClassId => u.1 0 = h0) (Bn_C D (va_A (nw_C h0) sz)) (va_A (nw_C h0) sz)) 13 256 (va_A (nw_C h0) sz) := by
  refine Met.ofW (cc := b_C_init) (maxL := 1) (ret := none) (by decide) rfl ?_
  intro p e s m args below meth c s₁ B hml hv
  obtain ⟨rfl, hsz, hP, hK, hD0, hO⟩ := hv
  have hx := B.exec
  have hb := B.bytes
  have hr := B.returns
  have hts0 := atoms_spec (ws := Cond.code y_C_init b_C_init 1 none :: BW) B.pre
  have hts : ∀ w ∈ BW, w.before _ s = true := fun w h => hts0 w (List.mem_cons_of_mem _ h)
  have hown : s.vm.findClass R_C = some m.cls := findClass_of_methodNamed B.named
  have hlocks := B.notSynchronized
  have hin : meth.name = "<init>" := (name_of_methodNamed B.named B.method).1
  subst hsz
  have hD := hD0.self (sz := s.heap.size)
  generalize hAe : va_A (nw_C h0) s.heap.size = A at hD ⊢
  have hA : ∀ q : Nat, s.heap.size ≤ q → A q := fun q h => by rw [← hAe]; exact Or.inr h
  have hS : va_S A s.heap s.heap [] := va_S.rf
  have hP : va_P D classes [(h0, .inr (0, [.int 0, .null, .null, .null, .int 0, .null, .null, .null, .null]))] s.heap := hP
  have hD : va_D A [(h0, .inr (0, [.int 0, .null, .null, .null, .int 0, .null, .null, .null, .null]))] := hD
  have hl := lv_entry ([.ref h0]) (n := 1) (Nat.le_of_ble_eq_true rfl)
  rw [lg_entry_eq]
  generalize (lg_sl ([.ref h0]) ++ List.replicate (1 - (lg_sl ([.ref h0])).length) Slot.unset).toArray = ls at hl ⊢
  have hl : lv_has ls 1 [(0, .ref h0)] := hl
  refine lv_aload_n hx hb d_C_init_0 rfl (lv_at hl 0 rfl) ?_
  refine W.objInit hx hb hown (hts _ q_ml_C_1) (hts _ q_im_O) (hts _ q_code_O) rfl (by rw [hml]; exact hl.1) rfl d_C_init_1 (Nat.le_of_ble_eq_true rfl) (Nat.le_of_ble_eq_true rfl) ?_
  refine W.eq (g2 := F0 m 4 ls []) rfl ?_
  refine lv_aload_n hx hb d_C_init_4 rfl (lv_at hl 0 rfl) ?_
  refine lv_iconst (v := (0 : Int32)) hx hb d_C_init_5 (by decide) ?_
  refine va_put (D := D) (ci := 0) (v := .int (0 : Int32)) (ty := .int) (C := R_C) (T := F_C) (N := 9) hx hb hts i_C t_C t_C_ok n_C hown hK hP hD hS 0 rfl rfl 0 (by decide) (hts _ fl_C_7) (fun _ h9 => h9) rfl (by decide +kernel) rfl rfl (Nat.le_of_ble_eq_true rfl) d_C_init_6 (fun H locs hP hD hS => ?_)
  have hP : va_P D classes [(h0, .inr (0, [.int 0, .null, .null, .null, .int 0, .null, .null, .null, .null]))] H := hP
  have hD : va_D A [(h0, .inr (0, [.int 0, .null, .null, .null, .int 0, .null, .null, .null, .null]))] := hD
  refine lv_aload_n hx hb d_C_init_9 rfl (lv_at hl 0 rfl) ?_
  refine lv_bipush (v := (30 : Int32)) hx hb d_C_init_10 (by decide) ?_
  refine va_newa (atype := .int) (ty := .int) (a0 := (30, .inl (fun _ => (0 : Int32)))) (N' := 30) hx hb (hts _ q_ac_int) rfl hK hP hD hS hA (fun _ => rfl) (by decide) (by decide) (by decide +kernel) (by decide +kernel) (by decide +kernel) d_C_init_12 (fun q1 cI H hK hP hD hS => ?_)
  have hK : va_K D classes [(cI, .int)] s := hK
  have hP : va_P D classes [(h0, .inr (0, [.int 0, .null, .null, .null, .int 0, .null, .null, .null, .null])), (q1, .inl (cI, 30, .inl (fun _ => (0 : Int32))))] H := hP
  have hD : va_D A [(h0, .inr (0, [.int 0, .null, .null, .null, .int 0, .null, .null, .null, .null])), (q1, .inl (cI, 30, .inl (fun _ => (0 : Int32))))] := hD
  refine W.widen (k := 1) (n := 30) (by omega) (by omega) ?_
  refine va_putF (D := D) (ci := 0) (v := .ref q1) (ty := .array .int) (C := R_C) (T := F_C) (N := 9) hx hb hts i_C t_C t_C_ok n_C hown hK hP hD hS 0 rfl rfl 1 (by decide) (hts _ fl_C_13) (fun _ h9 => h9) rfl hin rfl (by decide +kernel) rfl rfl (Nat.le_of_ble_eq_true rfl) d_C_init_14 (fun H locs hP hD hS => ?_)
  have hP : va_P D classes [(h0, .inr (0, [.int 0, .ref q1, .null, .null, .int 0, .null, .null, .null, .null])), (q1, .inl (cI, 30, .inl (fun _ => (0 : Int32))))] H := hP
  have hD : va_D A [(h0, .inr (0, [.int 0, .ref q1, .null, .null, .int 0, .null, .null, .null, .null])), (q1, .inl (cI, 30, .inl (fun _ => (0 : Int32))))] := hD
  refine lv_aload_n hx hb d_C_init_17 rfl (lv_at hl 0 rfl) ?_
  refine lv_bipush (v := (30 : Int32)) hx hb d_C_init_18 (by decide) ?_
  refine x_newT (atype := .int) (ty := .int) (a0 := (30, .inl (fun _ => (0 : Int32)))) (N' := 30) rfl (fun _ _ => rfl) hx hb (hts _ q_ac_int) hK hP hD hS hA 0 rfl (fun _ => rfl) (by decide) (by decide) (by decide +kernel) (by decide +kernel) (by decide +kernel) d_C_init_20 (fun q2 H hP hD hS => ?_)
  have hP : va_P D classes [(h0, .inr (0, [.int 0, .ref q1, .null, .null, .int 0, .null, .null, .null, .null])), (q1, .inl (cI, 30, .inl (fun _ => (0 : Int32)))), (q2, .inl (cI, 30, .inl (fun _ => (0 : Int32))))] H := hP
  have hD : va_D A [(h0, .inr (0, [.int 0, .ref q1, .null, .null, .int 0, .null, .null, .null, .null])), (q1, .inl (cI, 30, .inl (fun _ => (0 : Int32)))), (q2, .inl (cI, 30, .inl (fun _ => (0 : Int32))))] := hD
  refine W.widen (k := 2) (n := 60) (by omega) (by omega) ?_
  refine va_putF (D := D) (ci := 0) (v := .ref q2) (ty := .array .int) (C := R_C) (T := F_C) (N := 9) hx hb hts i_C t_C t_C_ok n_C hown hK hP hD hS 0 rfl rfl 2 (by decide) (hts _ fl_C_17) (fun _ h9 => h9) rfl hin rfl (by decide +kernel) rfl rfl (Nat.le_of_ble_eq_true rfl) d_C_init_22 (fun H locs hP hD hS => ?_)
  have hP : va_P D classes [(h0, .inr (0, [.int 0, .ref q1, .ref q2, .null, .int 0, .null, .null, .null, .null])), (q1, .inl (cI, 30, .inl (fun _ => (0 : Int32)))), (q2, .inl (cI, 30, .inl (fun _ => (0 : Int32))))] H := hP
  have hD : va_D A [(h0, .inr (0, [.int 0, .ref q1, .ref q2, .null, .int 0, .null, .null, .null, .null])), (q1, .inl (cI, 30, .inl (fun _ => (0 : Int32)))), (q2, .inl (cI, 30, .inl (fun _ => (0 : Int32))))] := hD
  refine lv_aload_n hx hb d_C_init_25 rfl (lv_at hl 0 rfl) ?_
  refine lv_iconst (v := (4 : Int32)) hx hb d_C_init_26 (by decide) ?_
  refine lv_bipush (v := (30 : Int32)) hx hb d_C_init_27 (by decide) ?_
  refine x_mna (N' := 4) (K' := 30) hx hb hown (hts _ q_cl_C_20) hO (hts _ q_ac_int) hK hP hD hS hA 0 rfl (by decide) (by decide) (by decide) (by decide) (by decide +kernel) (by decide +kernel) (by decide +kernel) (by decide +kernel) (by decide +kernel) d_C_init_29 (fun q3 r3 cII H hK hP hD hS => ?_)
  have hK : va_K D classes [(cI, .int), (cII, .array .int)] s := hK
  have hP : va_P D classes [(h0, .inr (0, [.int 0, .ref q1, .ref q2, .null, .int 0, .null, .null, .null, .null])), (q1, .inl (cI, 30, .inl (fun _ => (0 : Int32)))), (q2, .inl (cI, 30, .inl (fun _ => (0 : Int32)))), (q3, .inl (cII, 4, .inr (.inr (.inr (.inr (fun i => if i < 4 then some (r3 i) else none)))))), (r3 0, .inl (cI, 30, .inl (fun _ => (0 : Int32)))), (r3 1, .inl (cI, 30, .inl (fun _ => (0 : Int32)))), (r3 2, .inl (cI, 30, .inl (fun _ => (0 : Int32)))), (r3 3, .inl (cI, 30, .inl (fun _ => (0 : Int32))))] H := hP
  have hD : va_D A [(h0, .inr (0, [.int 0, .ref q1, .ref q2, .null, .int 0, .null, .null, .null, .null])), (q1, .inl (cI, 30, .inl (fun _ => (0 : Int32)))), (q2, .inl (cI, 30, .inl (fun _ => (0 : Int32)))), (q3, .inl (cII, 4, .inr (.inr (.inr (.inr (fun i => if i < 4 then some (r3 i) else none)))))), (r3 0, .inl (cI, 30, .inl (fun _ => (0 : Int32)))), (r3 1, .inl (cI, 30, .inl (fun _ => (0 : Int32)))), (r3 2, .inl (cI, 30, .inl (fun _ => (0 : Int32)))), (r3 3, .inl (cI, 30, .inl (fun _ => (0 : Int32))))] := hD
  refine W.widen (k := 7) (n := 184) (by omega) (by omega) ?_
  refine va_putF (D := D) (ci := 0) (v := .ref q3) (ty := .array (.array .int)) (C := R_C) (T := F_C) (N := 9) hx hb hts i_C t_C t_C_ok n_C hown hK hP hD hS 0 rfl rfl 3 (by decide) (hts _ fl_C_22) (fun _ h9 => h9) rfl hin rfl (by decide +kernel) rfl rfl (Nat.le_of_ble_eq_true rfl) d_C_init_33 (fun H locs hP hD hS => ?_)
  have hP : va_P D classes [(h0, .inr (0, [.int 0, .ref q1, .ref q2, .ref q3, .int 0, .null, .null, .null, .null])), (q1, .inl (cI, 30, .inl (fun _ => (0 : Int32)))), (q2, .inl (cI, 30, .inl (fun _ => (0 : Int32)))), (q3, .inl (cII, 4, .inr (.inr (.inr (.inr (fun i => if i < 4 then some (r3 i) else none)))))), (r3 0, .inl (cI, 30, .inl (fun _ => (0 : Int32)))), (r3 1, .inl (cI, 30, .inl (fun _ => (0 : Int32)))), (r3 2, .inl (cI, 30, .inl (fun _ => (0 : Int32)))), (r3 3, .inl (cI, 30, .inl (fun _ => (0 : Int32))))] H := hP
  have hD : va_D A [(h0, .inr (0, [.int 0, .ref q1, .ref q2, .ref q3, .int 0, .null, .null, .null, .null])), (q1, .inl (cI, 30, .inl (fun _ => (0 : Int32)))), (q2, .inl (cI, 30, .inl (fun _ => (0 : Int32)))), (q3, .inl (cII, 4, .inr (.inr (.inr (.inr (fun i => if i < 4 then some (r3 i) else none)))))), (r3 0, .inl (cI, 30, .inl (fun _ => (0 : Int32)))), (r3 1, .inl (cI, 30, .inl (fun _ => (0 : Int32)))), (r3 2, .inl (cI, 30, .inl (fun _ => (0 : Int32)))), (r3 3, .inl (cI, 30, .inl (fun _ => (0 : Int32))))] := hD
  refine lv_aload_n hx hb d_C_init_36 rfl (lv_at hl 0 rfl) ?_
  refine lv_iconst (v := (0 : Int32)) hx hb d_C_init_37 (by decide) ?_
  refine va_put (D := D) (ci := 0) (v := .int (0 : Int32)) (ty := .int) (C := R_C) (T := F_C) (N := 9) hx hb hts i_C t_C t_C_ok n_C hown hK hP hD hS 0 rfl rfl 4 (by decide) (hts _ fl_C_25) (fun _ h9 => h9) rfl (by decide +kernel) rfl rfl (Nat.le_of_ble_eq_true rfl) d_C_init_38 (fun H locs hP hD hS => ?_)
  have hP : va_P D classes [(h0, .inr (0, [.int 0, .ref q1, .ref q2, .ref q3, .int 0, .null, .null, .null, .null])), (q1, .inl (cI, 30, .inl (fun _ => (0 : Int32)))), (q2, .inl (cI, 30, .inl (fun _ => (0 : Int32)))), (q3, .inl (cII, 4, .inr (.inr (.inr (.inr (fun i => if i < 4 then some (r3 i) else none)))))), (r3 0, .inl (cI, 30, .inl (fun _ => (0 : Int32)))), (r3 1, .inl (cI, 30, .inl (fun _ => (0 : Int32)))), (r3 2, .inl (cI, 30, .inl (fun _ => (0 : Int32)))), (r3 3, .inl (cI, 30, .inl (fun _ => (0 : Int32))))] H := hP
  have hD : va_D A [(h0, .inr (0, [.int 0, .ref q1, .ref q2, .ref q3, .int 0, .null, .null, .null, .null])), (q1, .inl (cI, 30, .inl (fun _ => (0 : Int32)))), (q2, .inl (cI, 30, .inl (fun _ => (0 : Int32)))), (q3, .inl (cII, 4, .inr (.inr (.inr (.inr (fun i => if i < 4 then some (r3 i) else none)))))), (r3 0, .inl (cI, 30, .inl (fun _ => (0 : Int32)))), (r3 1, .inl (cI, 30, .inl (fun _ => (0 : Int32)))), (r3 2, .inl (cI, 30, .inl (fun _ => (0 : Int32)))), (r3 3, .inl (cI, 30, .inl (fun _ => (0 : Int32))))] := hD
  refine lv_aload_n hx hb d_C_init_41 rfl (lv_at hl 0 rfl) ?_
  refine lv_bipush (v := (10 : Int32)) hx hb d_C_init_42 (by decide) ?_
  refine x_newT (atype := .int) (ty := .int) (a0 := (10, .inl (fun _ => (0 : Int32)))) (N' := 10) rfl (fun _ _ => rfl) hx hb (hts _ q_ac_int) hK hP hD hS hA 0 rfl (fun _ => rfl) (by decide) (by decide) (by decide +kernel) (by decide +kernel) (by decide +kernel) d_C_init_44 (fun q4 H hP hD hS => ?_)
  have hP : va_P D classes [(h0, .inr (0, [.int 0, .ref q1, .ref q2, .ref q3, .int 0, .null, .null, .null, .null])), (q1, .inl (cI, 30, .inl (fun _ => (0 : Int32)))), (q2, .inl (cI, 30, .inl (fun _ => (0 : Int32)))), (q3, .inl (cII, 4, .inr (.inr (.inr (.inr (fun i => if i < 4 then some (r3 i) else none)))))), (r3 0, .inl (cI, 30, .inl (fun _ => (0 : Int32)))), (r3 1, .inl (cI, 30, .inl (fun _ => (0 : Int32)))), (r3 2, .inl (cI, 30, .inl (fun _ => (0 : Int32)))), (r3 3, .inl (cI, 30, .inl (fun _ => (0 : Int32)))), (q4, .inl (cI, 10, .inl (fun _ => (0 : Int32))))] H := hP
  have hD : va_D A [(h0, .inr (0, [.int 0, .ref q1, .ref q2, .ref q3, .int 0, .null, .null, .null, .null])), (q1, .inl (cI, 30, .inl (fun _ => (0 : Int32)))), (q2, .inl (cI, 30, .inl (fun _ => (0 : Int32)))), (q3, .inl (cII, 4, .inr (.inr (.inr (.inr (fun i => if i < 4 then some (r3 i) else none)))))), (r3 0, .inl (cI, 30, .inl (fun _ => (0 : Int32)))), (r3 1, .inl (cI, 30, .inl (fun _ => (0 : Int32)))), (r3 2, .inl (cI, 30, .inl (fun _ => (0 : Int32)))), (r3 3, .inl (cI, 30, .inl (fun _ => (0 : Int32)))), (q4, .inl (cI, 10, .inl (fun _ => (0 : Int32))))] := hD
  refine W.widen (k := 8) (n := 194) (by omega) (by omega) ?_
  refine va_putF (D := D) (ci := 0) (v := .ref q4) (ty := .array .int) (C := R_C) (T := F_C) (N := 9) hx hb hts i_C t_C t_C_ok n_C hown hK hP hD hS 0 rfl rfl 5 (by decide) (hts _ fl_C_28) (fun _ h9 => h9) rfl hin rfl (by decide +kernel) rfl rfl (Nat.le_of_ble_eq_true rfl) d_C_init_46 (fun H locs hP hD hS => ?_)
  have hP : va_P D classes [(h0, .inr (0, [.int 0, .ref q1, .ref q2, .ref q3, .int 0, .ref q4, .null, .null, .null])), (q1, .inl (cI, 30, .inl (fun _ => (0 : Int32)))), (q2, .inl (cI, 30, .inl (fun _ => (0 : Int32)))), (q3, .inl (cII, 4, .inr (.inr (.inr (.inr (fun i => if i < 4 then some (r3 i) else none)))))), (r3 0, .inl (cI, 30, .inl (fun _ => (0 : Int32)))), (r3 1, .inl (cI, 30, .inl (fun _ => (0 : Int32)))), (r3 2, .inl (cI, 30, .inl (fun _ => (0 : Int32)))), (r3 3, .inl (cI, 30, .inl (fun _ => (0 : Int32)))), (q4, .inl (cI, 10, .inl (fun _ => (0 : Int32))))] H := hP
  have hD : va_D A [(h0, .inr (0, [.int 0, .ref q1, .ref q2, .ref q3, .int 0, .ref q4, .null, .null, .null])), (q1, .inl (cI, 30, .inl (fun _ => (0 : Int32)))), (q2, .inl (cI, 30, .inl (fun _ => (0 : Int32)))), (q3, .inl (cII, 4, .inr (.inr (.inr (.inr (fun i => if i < 4 then some (r3 i) else none)))))), (r3 0, .inl (cI, 30, .inl (fun _ => (0 : Int32)))), (r3 1, .inl (cI, 30, .inl (fun _ => (0 : Int32)))), (r3 2, .inl (cI, 30, .inl (fun _ => (0 : Int32)))), (r3 3, .inl (cI, 30, .inl (fun _ => (0 : Int32)))), (q4, .inl (cI, 10, .inl (fun _ => (0 : Int32))))] := hD
  refine lv_aload_n hx hb d_C_init_49 rfl (lv_at hl 0 rfl) ?_
  refine lv_bipush (v := (10 : Int32)) hx hb d_C_init_50 (by decide) ?_
  refine x_newT (atype := .int) (ty := .int) (a0 := (10, .inl (fun _ => (0 : Int32)))) (N' := 10) rfl (fun _ _ => rfl) hx hb (hts _ q_ac_int) hK hP hD hS hA 0 rfl (fun _ => rfl) (by decide) (by decide) (by decide +kernel) (by decide +kernel) (by decide +kernel) d_C_init_52 (fun q5 H hP hD hS => ?_)
  have hP : va_P D classes [(h0, .inr (0, [.int 0, .ref q1, .ref q2, .ref q3, .int 0, .ref q4, .null, .null, .null])), (q1, .inl (cI, 30, .inl (fun _ => (0 : Int32)))), (q2, .inl (cI, 30, .inl (fun _ => (0 : Int32)))), (q3, .inl (cII, 4, .inr (.inr (.inr (.inr (fun i => if i < 4 then some (r3 i) else none)))))), (r3 0, .inl (cI, 30, .inl (fun _ => (0 : Int32)))), (r3 1, .inl (cI, 30, .inl (fun _ => (0 : Int32)))), (r3 2, .inl (cI, 30, .inl (fun _ => (0 : Int32)))), (r3 3, .inl (cI, 30, .inl (fun _ => (0 : Int32)))), (q4, .inl (cI, 10, .inl (fun _ => (0 : Int32)))), (q5, .inl (cI, 10, .inl (fun _ => (0 : Int32))))] H := hP
  have hD : va_D A [(h0, .inr (0, [.int 0, .ref q1, .ref q2, .ref q3, .int 0, .ref q4, .null, .null, .null])), (q1, .inl (cI, 30, .inl (fun _ => (0 : Int32)))), (q2, .inl (cI, 30, .inl (fun _ => (0 : Int32)))), (q3, .inl (cII, 4, .inr (.inr (.inr (.inr (fun i => if i < 4 then some (r3 i) else none)))))), (r3 0, .inl (cI, 30, .inl (fun _ => (0 : Int32)))), (r3 1, .inl (cI, 30, .inl (fun _ => (0 : Int32)))), (r3 2, .inl (cI, 30, .inl (fun _ => (0 : Int32)))), (r3 3, .inl (cI, 30, .inl (fun _ => (0 : Int32)))), (q4, .inl (cI, 10, .inl (fun _ => (0 : Int32)))), (q5, .inl (cI, 10, .inl (fun _ => (0 : Int32))))] := hD
  refine W.widen (k := 9) (n := 204) (by omega) (by omega) ?_
  refine va_putF (D := D) (ci := 0) (v := .ref q5) (ty := .array .int) (C := R_C) (T := F_C) (N := 9) hx hb hts i_C t_C t_C_ok n_C hown hK hP hD hS 0 rfl rfl 6 (by decide) (hts _ fl_C_31) (fun _ h9 => h9) rfl hin rfl (by decide +kernel) rfl rfl (Nat.le_of_ble_eq_true rfl) d_C_init_54 (fun H locs hP hD hS => ?_)
  have hP : va_P D classes [(h0, .inr (0, [.int 0, .ref q1, .ref q2, .ref q3, .int 0, .ref q4, .ref q5, .null, .null])), (q1, .inl (cI, 30, .inl (fun _ => (0 : Int32)))), (q2, .inl (cI, 30, .inl (fun _ => (0 : Int32)))), (q3, .inl (cII, 4, .inr (.inr (.inr (.inr (fun i => if i < 4 then some (r3 i) else none)))))), (r3 0, .inl (cI, 30, .inl (fun _ => (0 : Int32)))), (r3 1, .inl (cI, 30, .inl (fun _ => (0 : Int32)))), (r3 2, .inl (cI, 30, .inl (fun _ => (0 : Int32)))), (r3 3, .inl (cI, 30, .inl (fun _ => (0 : Int32)))), (q4, .inl (cI, 10, .inl (fun _ => (0 : Int32)))), (q5, .inl (cI, 10, .inl (fun _ => (0 : Int32))))] H := hP
  have hD : va_D A [(h0, .inr (0, [.int 0, .ref q1, .ref q2, .ref q3, .int 0, .ref q4, .ref q5, .null, .null])), (q1, .inl (cI, 30, .inl (fun _ => (0 : Int32)))), (q2, .inl (cI, 30, .inl (fun _ => (0 : Int32)))), (q3, .inl (cII, 4, .inr (.inr (.inr (.inr (fun i => if i < 4 then some (r3 i) else none)))))), (r3 0, .inl (cI, 30, .inl (fun _ => (0 : Int32)))), (r3 1, .inl (cI, 30, .inl (fun _ => (0 : Int32)))), (r3 2, .inl (cI, 30, .inl (fun _ => (0 : Int32)))), (r3 3, .inl (cI, 30, .inl (fun _ => (0 : Int32)))), (q4, .inl (cI, 10, .inl (fun _ => (0 : Int32)))), (q5, .inl (cI, 10, .inl (fun _ => (0 : Int32))))] := hD
  refine lv_aload_n hx hb d_C_init_57 rfl (lv_at hl 0 rfl) ?_
  refine lv_iconst (v := (2 : Int32)) hx hb d_C_init_58 (by decide) ?_
  refine lv_bipush (v := (10 : Int32)) hx hb d_C_init_59 (by decide) ?_
  refine x_mna (N' := 2) (K' := 10) hx hb hown (hts _ q_cl_C_20) hO (hts _ q_ac_int) hK hP hD hS hA 0 rfl (by decide) (by decide) (by decide) (by decide) (by decide +kernel) (by decide +kernel) (by decide +kernel) (by decide +kernel) (by decide +kernel) d_C_init_61 (fun q6 r6 cJ H hK2 hP hD hS => ?_)
  obtain rfl : cII = cJ := Option.some.inj (((hK2.2 1 _ rfl).2).symm.trans ((hK2.2 2 _ rfl).2))
  have hP : va_P D classes [(h0, .inr (0, [.int 0, .ref q1, .ref q2, .ref q3, .int 0, .ref q4, .ref q5, .null, .null])), (q1, .inl (cI, 30, .inl (fun _ => (0 : Int32)))), (q2, .inl (cI, 30, .inl (fun _ => (0 : Int32)))), (q3, .inl (cII, 4, .inr (.inr (.inr (.inr (fun i => if i < 4 then some (r3 i) else none)))))), (r3 0, .inl (cI, 30, .inl (fun _ => (0 : Int32)))), (r3 1, .inl (cI, 30, .inl (fun _ => (0 : Int32)))), (r3 2, .inl (cI, 30, .inl (fun _ => (0 : Int32)))), (r3 3, .inl (cI, 30, .inl (fun _ => (0 : Int32)))), (q4, .inl (cI, 10, .inl (fun _ => (0 : Int32)))), (q5, .inl (cI, 10, .inl (fun _ => (0 : Int32)))), (q6, .inl (cII, 2, .inr (.inr (.inr (.inr (fun i => if i < 2 then some (r6 i) else none)))))), (r6 0, .inl (cI, 10, .inl (fun _ => (0 : Int32)))), (r6 1, .inl (cI, 10, .inl (fun _ => (0 : Int32))))] H := hP
  have hD : va_D A [(h0, .inr (0, [.int 0, .ref q1, .ref q2, .ref q3, .int 0, .ref q4, .ref q5, .null, .null])), (q1, .inl (cI, 30, .inl (fun _ => (0 : Int32)))), (q2, .inl (cI, 30, .inl (fun _ => (0 : Int32)))), (q3, .inl (cII, 4, .inr (.inr (.inr (.inr (fun i => if i < 4 then some (r3 i) else none)))))), (r3 0, .inl (cI, 30, .inl (fun _ => (0 : Int32)))), (r3 1, .inl (cI, 30, .inl (fun _ => (0 : Int32)))), (r3 2, .inl (cI, 30, .inl (fun _ => (0 : Int32)))), (r3 3, .inl (cI, 30, .inl (fun _ => (0 : Int32)))), (q4, .inl (cI, 10, .inl (fun _ => (0 : Int32)))), (q5, .inl (cI, 10, .inl (fun _ => (0 : Int32)))), (q6, .inl (cII, 2, .inr (.inr (.inr (.inr (fun i => if i < 2 then some (r6 i) else none)))))), (r6 0, .inl (cI, 10, .inl (fun _ => (0 : Int32)))), (r6 1, .inl (cI, 10, .inl (fun _ => (0 : Int32))))] := hD
  refine W.widen (k := 12) (n := 226) (by omega) (by omega) ?_
  refine va_putF (D := D) (ci := 0) (v := .ref q6) (ty := .array (.array .int)) (C := R_C) (T := F_C) (N := 9) hx hb hts i_C t_C t_C_ok n_C hown hK hP hD hS 0 rfl rfl 7 (by decide) (hts _ fl_C_34) (fun _ h9 => h9) rfl hin rfl (by decide +kernel) rfl rfl (Nat.le_of_ble_eq_true rfl) d_C_init_65 (fun H locs hP hD hS => ?_)
  have hP : va_P D classes [(h0, .inr (0, [.int 0, .ref q1, .ref q2, .ref q3, .int 0, .ref q4, .ref q5, .ref q6, .null])), (q1, .inl (cI, 30, .inl (fun _ => (0 : Int32)))), (q2, .inl (cI, 30, .inl (fun _ => (0 : Int32)))), (q3, .inl (cII, 4, .inr (.inr (.inr (.inr (fun i => if i < 4 then some (r3 i) else none)))))), (r3 0, .inl (cI, 30, .inl (fun _ => (0 : Int32)))), (r3 1, .inl (cI, 30, .inl (fun _ => (0 : Int32)))), (r3 2, .inl (cI, 30, .inl (fun _ => (0 : Int32)))), (r3 3, .inl (cI, 30, .inl (fun _ => (0 : Int32)))), (q4, .inl (cI, 10, .inl (fun _ => (0 : Int32)))), (q5, .inl (cI, 10, .inl (fun _ => (0 : Int32)))), (q6, .inl (cII, 2, .inr (.inr (.inr (.inr (fun i => if i < 2 then some (r6 i) else none)))))), (r6 0, .inl (cI, 10, .inl (fun _ => (0 : Int32)))), (r6 1, .inl (cI, 10, .inl (fun _ => (0 : Int32))))] H := hP
  have hD : va_D A [(h0, .inr (0, [.int 0, .ref q1, .ref q2, .ref q3, .int 0, .ref q4, .ref q5, .ref q6, .null])), (q1, .inl (cI, 30, .inl (fun _ => (0 : Int32)))), (q2, .inl (cI, 30, .inl (fun _ => (0 : Int32)))), (q3, .inl (cII, 4, .inr (.inr (.inr (.inr (fun i => if i < 4 then some (r3 i) else none)))))), (r3 0, .inl (cI, 30, .inl (fun _ => (0 : Int32)))), (r3 1, .inl (cI, 30, .inl (fun _ => (0 : Int32)))), (r3 2, .inl (cI, 30, .inl (fun _ => (0 : Int32)))), (r3 3, .inl (cI, 30, .inl (fun _ => (0 : Int32)))), (q4, .inl (cI, 10, .inl (fun _ => (0 : Int32)))), (q5, .inl (cI, 10, .inl (fun _ => (0 : Int32)))), (q6, .inl (cII, 2, .inr (.inr (.inr (.inr (fun i => if i < 2 then some (r6 i) else none)))))), (r6 0, .inl (cI, 10, .inl (fun _ => (0 : Int32)))), (r6 1, .inl (cI, 10, .inl (fun _ => (0 : Int32))))] := hD
  refine lv_aload_n hx hb d_C_init_68 rfl (lv_at hl 0 rfl) ?_
  refine lv_bipush (v := (30 : Int32)) hx hb d_C_init_69 (by decide) ?_
  refine x_newT (atype := .int) (ty := .int) (a0 := (30, .inl (fun _ => (0 : Int32)))) (N' := 30) rfl (fun _ _ => rfl) hx hb (hts _ q_ac_int) hK hP hD hS hA 0 rfl (fun _ => rfl) (by decide) (by decide) (by decide +kernel) (by decide +kernel) (by decide +kernel) d_C_init_71 (fun q7 H hP hD hS => ?_)
  have hP : va_P D classes [(h0, .inr (0, [.int 0, .ref q1, .ref q2, .ref q3, .int 0, .ref q4, .ref q5, .ref q6, .null])), (q1, .inl (cI, 30, .inl (fun _ => (0 : Int32)))), (q2, .inl (cI, 30, .inl (fun _ => (0 : Int32)))), (q3, .inl (cII, 4, .inr (.inr (.inr (.inr (fun i => if i < 4 then some (r3 i) else none)))))), (r3 0, .inl (cI, 30, .inl (fun _ => (0 : Int32)))), (r3 1, .inl (cI, 30, .inl (fun _ => (0 : Int32)))), (r3 2, .inl (cI, 30, .inl (fun _ => (0 : Int32)))), (r3 3, .inl (cI, 30, .inl (fun _ => (0 : Int32)))), (q4, .inl (cI, 10, .inl (fun _ => (0 : Int32)))), (q5, .inl (cI, 10, .inl (fun _ => (0 : Int32)))), (q6, .inl (cII, 2, .inr (.inr (.inr (.inr (fun i => if i < 2 then some (r6 i) else none)))))), (r6 0, .inl (cI, 10, .inl (fun _ => (0 : Int32)))), (r6 1, .inl (cI, 10, .inl (fun _ => (0 : Int32)))), (q7, .inl (cI, 30, .inl (fun _ => (0 : Int32))))] H := hP
  have hD : va_D A [(h0, .inr (0, [.int 0, .ref q1, .ref q2, .ref q3, .int 0, .ref q4, .ref q5, .ref q6, .null])), (q1, .inl (cI, 30, .inl (fun _ => (0 : Int32)))), (q2, .inl (cI, 30, .inl (fun _ => (0 : Int32)))), (q3, .inl (cII, 4, .inr (.inr (.inr (.inr (fun i => if i < 4 then some (r3 i) else none)))))), (r3 0, .inl (cI, 30, .inl (fun _ => (0 : Int32)))), (r3 1, .inl (cI, 30, .inl (fun _ => (0 : Int32)))), (r3 2, .inl (cI, 30, .inl (fun _ => (0 : Int32)))), (r3 3, .inl (cI, 30, .inl (fun _ => (0 : Int32)))), (q4, .inl (cI, 10, .inl (fun _ => (0 : Int32)))), (q5, .inl (cI, 10, .inl (fun _ => (0 : Int32)))), (q6, .inl (cII, 2, .inr (.inr (.inr (.inr (fun i => if i < 2 then some (r6 i) else none)))))), (r6 0, .inl (cI, 10, .inl (fun _ => (0 : Int32)))), (r6 1, .inl (cI, 10, .inl (fun _ => (0 : Int32)))), (q7, .inl (cI, 30, .inl (fun _ => (0 : Int32))))] := hD
  refine W.widen (k := 13) (n := 256) (by omega) (by omega) ?_
  refine va_putF (D := D) (ci := 0) (v := .ref q7) (ty := .array .int) (C := R_C) (T := F_C) (N := 9) hx hb hts i_C t_C t_C_ok n_C hown hK hP hD hS 0 rfl rfl 8 (by decide) (hts _ fl_C_37) (fun _ h9 => h9) rfl hin rfl (by decide +kernel) rfl rfl (Nat.le_of_ble_eq_true rfl) d_C_init_73 (fun H locs hP hD hS => ?_)
  have hP : va_P D classes [(h0, .inr (0, [.int 0, .ref q1, .ref q2, .ref q3, .int 0, .ref q4, .ref q5, .ref q6, .ref q7])), (q1, .inl (cI, 30, .inl (fun _ => (0 : Int32)))), (q2, .inl (cI, 30, .inl (fun _ => (0 : Int32)))), (q3, .inl (cII, 4, .inr (.inr (.inr (.inr (fun i => if i < 4 then some (r3 i) else none)))))), (r3 0, .inl (cI, 30, .inl (fun _ => (0 : Int32)))), (r3 1, .inl (cI, 30, .inl (fun _ => (0 : Int32)))), (r3 2, .inl (cI, 30, .inl (fun _ => (0 : Int32)))), (r3 3, .inl (cI, 30, .inl (fun _ => (0 : Int32)))), (q4, .inl (cI, 10, .inl (fun _ => (0 : Int32)))), (q5, .inl (cI, 10, .inl (fun _ => (0 : Int32)))), (q6, .inl (cII, 2, .inr (.inr (.inr (.inr (fun i => if i < 2 then some (r6 i) else none)))))), (r6 0, .inl (cI, 10, .inl (fun _ => (0 : Int32)))), (r6 1, .inl (cI, 10, .inl (fun _ => (0 : Int32)))), (q7, .inl (cI, 30, .inl (fun _ => (0 : Int32))))] H := hP
  have hD : va_D A [(h0, .inr (0, [.int 0, .ref q1, .ref q2, .ref q3, .int 0, .ref q4, .ref q5, .ref q6, .ref q7])), (q1, .inl (cI, 30, .inl (fun _ => (0 : Int32)))), (q2, .inl (cI, 30, .inl (fun _ => (0 : Int32)))), (q3, .inl (cII, 4, .inr (.inr (.inr (.inr (fun i => if i < 4 then some (r3 i) else none)))))), (r3 0, .inl (cI, 30, .inl (fun _ => (0 : Int32)))), (r3 1, .inl (cI, 30, .inl (fun _ => (0 : Int32)))), (r3 2, .inl (cI, 30, .inl (fun _ => (0 : Int32)))), (r3 3, .inl (cI, 30, .inl (fun _ => (0 : Int32)))), (q4, .inl (cI, 10, .inl (fun _ => (0 : Int32)))), (q5, .inl (cI, 10, .inl (fun _ => (0 : Int32)))), (q6, .inl (cII, 2, .inr (.inr (.inr (.inr (fun i => if i < 2 then some (r6 i) else none)))))), (r6 0, .inl (cI, 10, .inl (fun _ => (0 : Int32)))), (r6 1, .inl (cI, 10, .inl (fun _ => (0 : Int32)))), (q7, .inl (cI, 30, .inl (fun _ => (0 : Int32))))] := hD
  have ew : wC (fun k => [h0, q1, q2, q3, r3 0, r3 1, r3 2, r3 3, q4, q5, q6, r6 0, r6 1, q7].getD k 0) cI cII 0 0 (fun _ _ => 0) = [(h0, .inr (0, [.int 0, .ref q1, .ref q2, .ref q3, .int 0, .ref q4, .ref q5, .ref q6, .ref q7])), (q1, .inl (cI, 30, .inl (fun _ => (0 : Int32)))), (q2, .inl (cI, 30, .inl (fun _ => (0 : Int32)))), (q3, .inl (cII, 4, .inr (.inr (.inr (.inr (fun i => if i < 4 then some (r3 i) else none)))))), (r3 0, .inl (cI, 30, .inl (fun _ => (0 : Int32)))), (r3 1, .inl (cI, 30, .inl (fun _ => (0 : Int32)))), (r3 2, .inl (cI, 30, .inl (fun _ => (0 : Int32)))), (r3 3, .inl (cI, 30, .inl (fun _ => (0 : Int32)))), (q4, .inl (cI, 10, .inl (fun _ => (0 : Int32)))), (q5, .inl (cI, 10, .inl (fun _ => (0 : Int32)))), (q6, .inl (cII, 2, .inr (.inr (.inr (.inr (fun i => if i < 2 then some (r6 i) else none)))))), (r6 0, .inl (cI, 10, .inl (fun _ => (0 : Int32)))), (r6 1, .inl (cI, 10, .inl (fun _ => (0 : Int32)))), (q7, .inl (cI, 30, .inl (fun _ => (0 : Int32))))] := by
    have e4 : ∀ (b k : Nat) (f r : Nat → Nat), (∀ i, i < k → f (b + i) = r i) → gO f b k = fun i => if i < k then some (r i) else none := fun b k f r h => by
      funext i; unfold gO; by_cases c : i < k
      · rw [if_pos c, if_pos c, h i c]
      · rw [if_neg c, if_neg c]
    unfold wC
    rw [e4 4 4 _ r3 (fun i hi => by rcases (show i = 0 ∨ i = 1 ∨ i = 2 ∨ i = 3 by omega) with rfl | rfl | rfl | rfl <;> rfl), e4 11 2 _ r6 (fun i hi => by rcases (show i = 0 ∨ i = 1 by omega) with rfl | rfl <;> rfl)]
    rfl
  exact W.vret hx hb hr (fun t ht hW => ⟨⟨((fun k => [h0, q1, q2, q3, r3 0, r3 1, r3 2, r3 3, q4, q5, q6, r6 0, r6 1, q7].getD k 0), cI, cII), rfl, rfl, by show va_P D classes (wC _ _ _ _ _ _) t.heap; rw [ew, ht]; exact hP, va_K.moved hW.alike hK, by show va_D A (wC _ _ _ _ _ _); rw [ew]; exact hD⟩, hS.F ht⟩) hS.2.2 d_C_init_76 hlocks
def nw_M (h0 : Nat) : va_W := [(h0, .inr (1, [.int 0, .null, .null, .null, .int 0, .null, .null, .null, .null, .int 0, .int 0, .null, .null, .null, .null, .null]))]
abbrev Pn_M (D : va_G) (h0 sz : Nat) : Array Value → State → Prop := va_Pc [.ref h0] (fun U => U.heap.size = sz ∧ va_P D classes (nw_M h0) U.heap ∧ va_K D classes [] U ∧ va_D (fun _ => True) (nw_M h0))
abbrev Bn_M (D : va_G) (A : Nat → Prop) (u : (Nat → Nat) × ClassId × ClassId) (t : State) : Prop := va_P D classes (wM u.1 u.2.1 u.2.2 0 0 (fun _ _ => 0) (fun _ _ => 0)) t.heap ∧ va_K D classes (tM u.2.1 u.2.2) t ∧ va_D A (wM u.1 u.2.1 u.2.2 0 0 (fun _ _ => 0) (fun _ _ => 0))
set_option maxHeartbeats 4000000 in
set_option maxRecDepth 100000 in
theorem c_M_init (l : Launch) (D : va_G) (h0 sz : Nat) : Met l y_M_init (Cond.code y_M_init b_M_init 1 none :: BW) ({ frames := 1, cells := 12, slots := 2110, locals := 12 } : Room) (Pn_M D h0 sz) (va_Qv (fun u : (Nat → Nat) × ClassId × ClassId => u.1 0 = h0) (Bn_M D (va_A (nw_M h0) sz)) (va_A (nw_M h0) sz)) 12 2110 (va_A (nw_M h0) sz) := by
  refine Met.ofW (cc := b_M_init) (maxL := 1) (ret := none) (by decide) rfl ?_
  intro p e s m args below meth c s₁ B hml hv
  obtain ⟨rfl, hsz, hP, hK, hD0⟩ := hv
  have hx := B.exec
  have hb := B.bytes
  have hr := B.returns
  have hts0 := atoms_spec (ws := Cond.code y_M_init b_M_init 1 none :: BW) B.pre
  have hts : ∀ w ∈ BW, w.before _ s = true := fun w h => hts0 w (List.mem_cons_of_mem _ h)
  have hown : s.vm.findClass R_M = some m.cls := findClass_of_methodNamed B.named
  have hlocks := B.notSynchronized
  have hin : meth.name = "<init>" := (name_of_methodNamed B.named B.method).1
  subst hsz
  have hD := hD0.self (sz := s.heap.size)
  generalize hAe : va_A (nw_M h0) s.heap.size = A at hD ⊢
  have hA : ∀ q : Nat, s.heap.size ≤ q → A q := fun q h => by rw [← hAe]; exact Or.inr h
  have hS : va_S A s.heap s.heap [] := va_S.rf
  have hP : va_P D classes [(h0, .inr (1, [.int 0, .null, .null, .null, .int 0, .null, .null, .null, .null, .int 0, .int 0, .null, .null, .null, .null, .null]))] s.heap := hP
  have hD : va_D A [(h0, .inr (1, [.int 0, .null, .null, .null, .int 0, .null, .null, .null, .null, .int 0, .int 0, .null, .null, .null, .null, .null]))] := hD
  have hl := lv_entry ([.ref h0]) (n := 1) (Nat.le_of_ble_eq_true rfl)
  rw [lg_entry_eq]
  generalize (lg_sl ([.ref h0]) ++ List.replicate (1 - (lg_sl ([.ref h0])).length) Slot.unset).toArray = ls at hl ⊢
  have hl : lv_has ls 1 [(0, .ref h0)] := hl
  refine lv_aload_n hx hb d_M_init_0 rfl (lv_at hl 0 rfl) ?_
  refine W.objInit hx hb hown (hts _ q_ml_M_1) (hts _ q_im_O) (hts _ q_code_O) rfl (by rw [hml]; exact hl.1) rfl d_M_init_1 (Nat.le_of_ble_eq_true rfl) (Nat.le_of_ble_eq_true rfl) ?_
  refine W.eq (g2 := F0 m 4 ls []) rfl ?_
  refine lv_aload_n hx hb d_M_init_4 rfl (lv_at hl 0 rfl) ?_
  refine lv_bipush (v := (30 : Int32)) hx hb d_M_init_5 (by decide) ?_
  refine va_newa (atype := .int) (ty := .int) (a0 := (30, .inl (fun _ => (0 : Int32)))) (N' := 30) hx hb (hts _ q_ac_int) rfl hK hP hD hS hA (fun _ => rfl) (by decide) (by decide) (by decide +kernel) (by decide +kernel) (by decide +kernel) d_M_init_7 (fun q1 cI H hK hP hD hS => ?_)
  have hK : va_K D classes [(cI, .int)] s := hK
  have hP : va_P D classes [(h0, .inr (1, [.int 0, .null, .null, .null, .int 0, .null, .null, .null, .null, .int 0, .int 0, .null, .null, .null, .null, .null])), (q1, .inl (cI, 30, .inl (fun _ => (0 : Int32))))] H := hP
  have hD : va_D A [(h0, .inr (1, [.int 0, .null, .null, .null, .int 0, .null, .null, .null, .null, .int 0, .int 0, .null, .null, .null, .null, .null])), (q1, .inl (cI, 30, .inl (fun _ => (0 : Int32))))] := hD
  refine W.widen (k := 1) (n := 30) (by omega) (by omega) ?_
  refine va_putF (D := D) (ci := 1) (v := .ref q1) (ty := .array .int) (C := R_M) (T := F_M) (N := 16) hx hb hts i_M t_M t_M_ok n_M hown hK hP hD hS 0 rfl rfl 1 (by decide) (hts _ fl_M_7) (fun _ h9 => h9) rfl hin rfl (by decide +kernel) rfl rfl (Nat.le_of_ble_eq_true rfl) d_M_init_9 (fun H locs hP hD hS => ?_)
  have hP : va_P D classes [(h0, .inr (1, [.int 0, .ref q1, .null, .null, .int 0, .null, .null, .null, .null, .int 0, .int 0, .null, .null, .null, .null, .null])), (q1, .inl (cI, 30, .inl (fun _ => (0 : Int32))))] H := hP
  have hD : va_D A [(h0, .inr (1, [.int 0, .ref q1, .null, .null, .int 0, .null, .null, .null, .null, .int 0, .int 0, .null, .null, .null, .null, .null])), (q1, .inl (cI, 30, .inl (fun _ => (0 : Int32))))] := hD
  refine lv_aload_n hx hb d_M_init_12 rfl (lv_at hl 0 rfl) ?_
  refine lv_bipush (v := (30 : Int32)) hx hb d_M_init_13 (by decide) ?_
  refine x_newT (atype := .int) (ty := .int) (a0 := (30, .inl (fun _ => (0 : Int32)))) (N' := 30) rfl (fun _ _ => rfl) hx hb (hts _ q_ac_int) hK hP hD hS hA 0 rfl (fun _ => rfl) (by decide) (by decide) (by decide +kernel) (by decide +kernel) (by decide +kernel) d_M_init_15 (fun q2 H hP hD hS => ?_)
  have hP : va_P D classes [(h0, .inr (1, [.int 0, .ref q1, .null, .null, .int 0, .null, .null, .null, .null, .int 0, .int 0, .null, .null, .null, .null, .null])), (q1, .inl (cI, 30, .inl (fun _ => (0 : Int32)))), (q2, .inl (cI, 30, .inl (fun _ => (0 : Int32))))] H := hP
  have hD : va_D A [(h0, .inr (1, [.int 0, .ref q1, .null, .null, .int 0, .null, .null, .null, .null, .int 0, .int 0, .null, .null, .null, .null, .null])), (q1, .inl (cI, 30, .inl (fun _ => (0 : Int32)))), (q2, .inl (cI, 30, .inl (fun _ => (0 : Int32))))] := hD
  refine W.widen (k := 2) (n := 60) (by omega) (by omega) ?_
  refine va_putF (D := D) (ci := 1) (v := .ref q2) (ty := .array .int) (C := R_M) (T := F_M) (N := 16) hx hb hts i_M t_M t_M_ok n_M hown hK hP hD hS 0 rfl rfl 2 (by decide) (hts _ fl_M_13) (fun _ h9 => h9) rfl hin rfl (by decide +kernel) rfl rfl (Nat.le_of_ble_eq_true rfl) d_M_init_17 (fun H locs hP hD hS => ?_)
  have hP : va_P D classes [(h0, .inr (1, [.int 0, .ref q1, .ref q2, .null, .int 0, .null, .null, .null, .null, .int 0, .int 0, .null, .null, .null, .null, .null])), (q1, .inl (cI, 30, .inl (fun _ => (0 : Int32)))), (q2, .inl (cI, 30, .inl (fun _ => (0 : Int32))))] H := hP
  have hD : va_D A [(h0, .inr (1, [.int 0, .ref q1, .ref q2, .null, .int 0, .null, .null, .null, .null, .int 0, .int 0, .null, .null, .null, .null, .null])), (q1, .inl (cI, 30, .inl (fun _ => (0 : Int32)))), (q2, .inl (cI, 30, .inl (fun _ => (0 : Int32))))] := hD
  refine lv_aload_n hx hb d_M_init_20 rfl (lv_at hl 0 rfl) ?_
  refine lv_bipush (v := (120 : Int32)) hx hb d_M_init_21 (by decide) ?_
  refine x_newT (atype := .int) (ty := .int) (a0 := (120, .inl (fun _ => (0 : Int32)))) (N' := 120) rfl (fun _ _ => rfl) hx hb (hts _ q_ac_int) hK hP hD hS hA 0 rfl (fun _ => rfl) (by decide) (by decide) (by decide +kernel) (by decide +kernel) (by decide +kernel) d_M_init_23 (fun q3 H hP hD hS => ?_)
  have hP : va_P D classes [(h0, .inr (1, [.int 0, .ref q1, .ref q2, .null, .int 0, .null, .null, .null, .null, .int 0, .int 0, .null, .null, .null, .null, .null])), (q1, .inl (cI, 30, .inl (fun _ => (0 : Int32)))), (q2, .inl (cI, 30, .inl (fun _ => (0 : Int32)))), (q3, .inl (cI, 120, .inl (fun _ => (0 : Int32))))] H := hP
  have hD : va_D A [(h0, .inr (1, [.int 0, .ref q1, .ref q2, .null, .int 0, .null, .null, .null, .null, .int 0, .int 0, .null, .null, .null, .null, .null])), (q1, .inl (cI, 30, .inl (fun _ => (0 : Int32)))), (q2, .inl (cI, 30, .inl (fun _ => (0 : Int32)))), (q3, .inl (cI, 120, .inl (fun _ => (0 : Int32))))] := hD
  refine W.widen (k := 3) (n := 180) (by omega) (by omega) ?_
  refine va_putF (D := D) (ci := 1) (v := .ref q3) (ty := .array .int) (C := R_M) (T := F_M) (N := 16) hx hb hts i_M t_M t_M_ok n_M hown hK hP hD hS 0 rfl rfl 3 (by decide) (hts _ fl_M_16) (fun _ h9 => h9) rfl hin rfl (by decide +kernel) rfl rfl (Nat.le_of_ble_eq_true rfl) d_M_init_25 (fun H locs hP hD hS => ?_)
  have hP : va_P D classes [(h0, .inr (1, [.int 0, .ref q1, .ref q2, .ref q3, .int 0, .null, .null, .null, .null, .int 0, .int 0, .null, .null, .null, .null, .null])), (q1, .inl (cI, 30, .inl (fun _ => (0 : Int32)))), (q2, .inl (cI, 30, .inl (fun _ => (0 : Int32)))), (q3, .inl (cI, 120, .inl (fun _ => (0 : Int32))))] H := hP
  have hD : va_D A [(h0, .inr (1, [.int 0, .ref q1, .ref q2, .ref q3, .int 0, .null, .null, .null, .null, .int 0, .int 0, .null, .null, .null, .null, .null])), (q1, .inl (cI, 30, .inl (fun _ => (0 : Int32)))), (q2, .inl (cI, 30, .inl (fun _ => (0 : Int32)))), (q3, .inl (cI, 120, .inl (fun _ => (0 : Int32))))] := hD
  refine lv_aload_n hx hb d_M_init_28 rfl (lv_at hl 0 rfl) ?_
  refine lv_bipush (v := (10 : Int32)) hx hb d_M_init_29 (by decide) ?_
  refine x_newT (atype := .int) (ty := .int) (a0 := (10, .inl (fun _ => (0 : Int32)))) (N' := 10) rfl (fun _ _ => rfl) hx hb (hts _ q_ac_int) hK hP hD hS hA 0 rfl (fun _ => rfl) (by decide) (by decide) (by decide +kernel) (by decide +kernel) (by decide +kernel) d_M_init_31 (fun q4 H hP hD hS => ?_)
  have hP : va_P D classes [(h0, .inr (1, [.int 0, .ref q1, .ref q2, .ref q3, .int 0, .null, .null, .null, .null, .int 0, .int 0, .null, .null, .null, .null, .null])), (q1, .inl (cI, 30, .inl (fun _ => (0 : Int32)))), (q2, .inl (cI, 30, .inl (fun _ => (0 : Int32)))), (q3, .inl (cI, 120, .inl (fun _ => (0 : Int32)))), (q4, .inl (cI, 10, .inl (fun _ => (0 : Int32))))] H := hP
  have hD : va_D A [(h0, .inr (1, [.int 0, .ref q1, .ref q2, .ref q3, .int 0, .null, .null, .null, .null, .int 0, .int 0, .null, .null, .null, .null, .null])), (q1, .inl (cI, 30, .inl (fun _ => (0 : Int32)))), (q2, .inl (cI, 30, .inl (fun _ => (0 : Int32)))), (q3, .inl (cI, 120, .inl (fun _ => (0 : Int32)))), (q4, .inl (cI, 10, .inl (fun _ => (0 : Int32))))] := hD
  refine W.widen (k := 4) (n := 190) (by omega) (by omega) ?_
  refine va_putF (D := D) (ci := 1) (v := .ref q4) (ty := .array .int) (C := R_M) (T := F_M) (N := 16) hx hb hts i_M t_M t_M_ok n_M hown hK hP hD hS 0 rfl rfl 5 (by decide) (hts _ fl_M_19) (fun _ h9 => h9) rfl hin rfl (by decide +kernel) rfl rfl (Nat.le_of_ble_eq_true rfl) d_M_init_33 (fun H locs hP hD hS => ?_)
  have hP : va_P D classes [(h0, .inr (1, [.int 0, .ref q1, .ref q2, .ref q3, .int 0, .ref q4, .null, .null, .null, .int 0, .int 0, .null, .null, .null, .null, .null])), (q1, .inl (cI, 30, .inl (fun _ => (0 : Int32)))), (q2, .inl (cI, 30, .inl (fun _ => (0 : Int32)))), (q3, .inl (cI, 120, .inl (fun _ => (0 : Int32)))), (q4, .inl (cI, 10, .inl (fun _ => (0 : Int32))))] H := hP
  have hD : va_D A [(h0, .inr (1, [.int 0, .ref q1, .ref q2, .ref q3, .int 0, .ref q4, .null, .null, .null, .int 0, .int 0, .null, .null, .null, .null, .null])), (q1, .inl (cI, 30, .inl (fun _ => (0 : Int32)))), (q2, .inl (cI, 30, .inl (fun _ => (0 : Int32)))), (q3, .inl (cI, 120, .inl (fun _ => (0 : Int32)))), (q4, .inl (cI, 10, .inl (fun _ => (0 : Int32))))] := hD
  refine lv_aload_n hx hb d_M_init_36 rfl (lv_at hl 0 rfl) ?_
  refine lv_bipush (v := (10 : Int32)) hx hb d_M_init_37 (by decide) ?_
  refine x_newT (atype := .int) (ty := .int) (a0 := (10, .inl (fun _ => (0 : Int32)))) (N' := 10) rfl (fun _ _ => rfl) hx hb (hts _ q_ac_int) hK hP hD hS hA 0 rfl (fun _ => rfl) (by decide) (by decide) (by decide +kernel) (by decide +kernel) (by decide +kernel) d_M_init_39 (fun q5 H hP hD hS => ?_)
  have hP : va_P D classes [(h0, .inr (1, [.int 0, .ref q1, .ref q2, .ref q3, .int 0, .ref q4, .null, .null, .null, .int 0, .int 0, .null, .null, .null, .null, .null])), (q1, .inl (cI, 30, .inl (fun _ => (0 : Int32)))), (q2, .inl (cI, 30, .inl (fun _ => (0 : Int32)))), (q3, .inl (cI, 120, .inl (fun _ => (0 : Int32)))), (q4, .inl (cI, 10, .inl (fun _ => (0 : Int32)))), (q5, .inl (cI, 10, .inl (fun _ => (0 : Int32))))] H := hP
  have hD : va_D A [(h0, .inr (1, [.int 0, .ref q1, .ref q2, .ref q3, .int 0, .ref q4, .null, .null, .null, .int 0, .int 0, .null, .null, .null, .null, .null])), (q1, .inl (cI, 30, .inl (fun _ => (0 : Int32)))), (q2, .inl (cI, 30, .inl (fun _ => (0 : Int32)))), (q3, .inl (cI, 120, .inl (fun _ => (0 : Int32)))), (q4, .inl (cI, 10, .inl (fun _ => (0 : Int32)))), (q5, .inl (cI, 10, .inl (fun _ => (0 : Int32))))] := hD
  refine W.widen (k := 5) (n := 200) (by omega) (by omega) ?_
  refine va_putF (D := D) (ci := 1) (v := .ref q5) (ty := .array .int) (C := R_M) (T := F_M) (N := 16) hx hb hts i_M t_M t_M_ok n_M hown hK hP hD hS 0 rfl rfl 6 (by decide) (hts _ fl_M_22) (fun _ h9 => h9) rfl hin rfl (by decide +kernel) rfl rfl (Nat.le_of_ble_eq_true rfl) d_M_init_41 (fun H locs hP hD hS => ?_)
  have hP : va_P D classes [(h0, .inr (1, [.int 0, .ref q1, .ref q2, .ref q3, .int 0, .ref q4, .ref q5, .null, .null, .int 0, .int 0, .null, .null, .null, .null, .null])), (q1, .inl (cI, 30, .inl (fun _ => (0 : Int32)))), (q2, .inl (cI, 30, .inl (fun _ => (0 : Int32)))), (q3, .inl (cI, 120, .inl (fun _ => (0 : Int32)))), (q4, .inl (cI, 10, .inl (fun _ => (0 : Int32)))), (q5, .inl (cI, 10, .inl (fun _ => (0 : Int32))))] H := hP
  have hD : va_D A [(h0, .inr (1, [.int 0, .ref q1, .ref q2, .ref q3, .int 0, .ref q4, .ref q5, .null, .null, .int 0, .int 0, .null, .null, .null, .null, .null])), (q1, .inl (cI, 30, .inl (fun _ => (0 : Int32)))), (q2, .inl (cI, 30, .inl (fun _ => (0 : Int32)))), (q3, .inl (cI, 120, .inl (fun _ => (0 : Int32)))), (q4, .inl (cI, 10, .inl (fun _ => (0 : Int32)))), (q5, .inl (cI, 10, .inl (fun _ => (0 : Int32))))] := hD
  refine lv_aload_n hx hb d_M_init_44 rfl (lv_at hl 0 rfl) ?_
  refine lv_bipush (v := (10 : Int32)) hx hb d_M_init_45 (by decide) ?_
  refine x_newT (atype := .int) (ty := .int) (a0 := (10, .inl (fun _ => (0 : Int32)))) (N' := 10) rfl (fun _ _ => rfl) hx hb (hts _ q_ac_int) hK hP hD hS hA 0 rfl (fun _ => rfl) (by decide) (by decide) (by decide +kernel) (by decide +kernel) (by decide +kernel) d_M_init_47 (fun q6 H hP hD hS => ?_)
  have hP : va_P D classes [(h0, .inr (1, [.int 0, .ref q1, .ref q2, .ref q3, .int 0, .ref q4, .ref q5, .null, .null, .int 0, .int 0, .null, .null, .null, .null, .null])), (q1, .inl (cI, 30, .inl (fun _ => (0 : Int32)))), (q2, .inl (cI, 30, .inl (fun _ => (0 : Int32)))), (q3, .inl (cI, 120, .inl (fun _ => (0 : Int32)))), (q4, .inl (cI, 10, .inl (fun _ => (0 : Int32)))), (q5, .inl (cI, 10, .inl (fun _ => (0 : Int32)))), (q6, .inl (cI, 10, .inl (fun _ => (0 : Int32))))] H := hP
  have hD : va_D A [(h0, .inr (1, [.int 0, .ref q1, .ref q2, .ref q3, .int 0, .ref q4, .ref q5, .null, .null, .int 0, .int 0, .null, .null, .null, .null, .null])), (q1, .inl (cI, 30, .inl (fun _ => (0 : Int32)))), (q2, .inl (cI, 30, .inl (fun _ => (0 : Int32)))), (q3, .inl (cI, 120, .inl (fun _ => (0 : Int32)))), (q4, .inl (cI, 10, .inl (fun _ => (0 : Int32)))), (q5, .inl (cI, 10, .inl (fun _ => (0 : Int32)))), (q6, .inl (cI, 10, .inl (fun _ => (0 : Int32))))] := hD
  refine W.widen (k := 6) (n := 210) (by omega) (by omega) ?_
  refine va_putF (D := D) (ci := 1) (v := .ref q6) (ty := .array .int) (C := R_M) (T := F_M) (N := 16) hx hb hts i_M t_M t_M_ok n_M hown hK hP hD hS 0 rfl rfl 7 (by decide) (hts _ fl_M_25) (fun _ h9 => h9) rfl hin rfl (by decide +kernel) rfl rfl (Nat.le_of_ble_eq_true rfl) d_M_init_49 (fun H locs hP hD hS => ?_)
  have hP : va_P D classes [(h0, .inr (1, [.int 0, .ref q1, .ref q2, .ref q3, .int 0, .ref q4, .ref q5, .ref q6, .null, .int 0, .int 0, .null, .null, .null, .null, .null])), (q1, .inl (cI, 30, .inl (fun _ => (0 : Int32)))), (q2, .inl (cI, 30, .inl (fun _ => (0 : Int32)))), (q3, .inl (cI, 120, .inl (fun _ => (0 : Int32)))), (q4, .inl (cI, 10, .inl (fun _ => (0 : Int32)))), (q5, .inl (cI, 10, .inl (fun _ => (0 : Int32)))), (q6, .inl (cI, 10, .inl (fun _ => (0 : Int32))))] H := hP
  have hD : va_D A [(h0, .inr (1, [.int 0, .ref q1, .ref q2, .ref q3, .int 0, .ref q4, .ref q5, .ref q6, .null, .int 0, .int 0, .null, .null, .null, .null, .null])), (q1, .inl (cI, 30, .inl (fun _ => (0 : Int32)))), (q2, .inl (cI, 30, .inl (fun _ => (0 : Int32)))), (q3, .inl (cI, 120, .inl (fun _ => (0 : Int32)))), (q4, .inl (cI, 10, .inl (fun _ => (0 : Int32)))), (q5, .inl (cI, 10, .inl (fun _ => (0 : Int32)))), (q6, .inl (cI, 10, .inl (fun _ => (0 : Int32))))] := hD
  refine lv_aload_n hx hb d_M_init_52 rfl (lv_at hl 0 rfl) ?_
  refine lv_bipush (v := (10 : Int32)) hx hb d_M_init_53 (by decide) ?_
  refine x_newT (atype := .int) (ty := .int) (a0 := (10, .inl (fun _ => (0 : Int32)))) (N' := 10) rfl (fun _ _ => rfl) hx hb (hts _ q_ac_int) hK hP hD hS hA 0 rfl (fun _ => rfl) (by decide) (by decide) (by decide +kernel) (by decide +kernel) (by decide +kernel) d_M_init_55 (fun q7 H hP hD hS => ?_)
  have hP : va_P D classes [(h0, .inr (1, [.int 0, .ref q1, .ref q2, .ref q3, .int 0, .ref q4, .ref q5, .ref q6, .null, .int 0, .int 0, .null, .null, .null, .null, .null])), (q1, .inl (cI, 30, .inl (fun _ => (0 : Int32)))), (q2, .inl (cI, 30, .inl (fun _ => (0 : Int32)))), (q3, .inl (cI, 120, .inl (fun _ => (0 : Int32)))), (q4, .inl (cI, 10, .inl (fun _ => (0 : Int32)))), (q5, .inl (cI, 10, .inl (fun _ => (0 : Int32)))), (q6, .inl (cI, 10, .inl (fun _ => (0 : Int32)))), (q7, .inl (cI, 10, .inl (fun _ => (0 : Int32))))] H := hP
  have hD : va_D A [(h0, .inr (1, [.int 0, .ref q1, .ref q2, .ref q3, .int 0, .ref q4, .ref q5, .ref q6, .null, .int 0, .int 0, .null, .null, .null, .null, .null])), (q1, .inl (cI, 30, .inl (fun _ => (0 : Int32)))), (q2, .inl (cI, 30, .inl (fun _ => (0 : Int32)))), (q3, .inl (cI, 120, .inl (fun _ => (0 : Int32)))), (q4, .inl (cI, 10, .inl (fun _ => (0 : Int32)))), (q5, .inl (cI, 10, .inl (fun _ => (0 : Int32)))), (q6, .inl (cI, 10, .inl (fun _ => (0 : Int32)))), (q7, .inl (cI, 10, .inl (fun _ => (0 : Int32))))] := hD
  refine W.widen (k := 7) (n := 220) (by omega) (by omega) ?_
  refine va_putF (D := D) (ci := 1) (v := .ref q7) (ty := .array .int) (C := R_M) (T := F_M) (N := 16) hx hb hts i_M t_M t_M_ok n_M hown hK hP hD hS 0 rfl rfl 8 (by decide) (hts _ fl_M_28) (fun _ h9 => h9) rfl hin rfl (by decide +kernel) rfl rfl (Nat.le_of_ble_eq_true rfl) d_M_init_57 (fun H locs hP hD hS => ?_)
  have hP : va_P D classes [(h0, .inr (1, [.int 0, .ref q1, .ref q2, .ref q3, .int 0, .ref q4, .ref q5, .ref q6, .ref q7, .int 0, .int 0, .null, .null, .null, .null, .null])), (q1, .inl (cI, 30, .inl (fun _ => (0 : Int32)))), (q2, .inl (cI, 30, .inl (fun _ => (0 : Int32)))), (q3, .inl (cI, 120, .inl (fun _ => (0 : Int32)))), (q4, .inl (cI, 10, .inl (fun _ => (0 : Int32)))), (q5, .inl (cI, 10, .inl (fun _ => (0 : Int32)))), (q6, .inl (cI, 10, .inl (fun _ => (0 : Int32)))), (q7, .inl (cI, 10, .inl (fun _ => (0 : Int32))))] H := hP
  have hD : va_D A [(h0, .inr (1, [.int 0, .ref q1, .ref q2, .ref q3, .int 0, .ref q4, .ref q5, .ref q6, .ref q7, .int 0, .int 0, .null, .null, .null, .null, .null])), (q1, .inl (cI, 30, .inl (fun _ => (0 : Int32)))), (q2, .inl (cI, 30, .inl (fun _ => (0 : Int32)))), (q3, .inl (cI, 120, .inl (fun _ => (0 : Int32)))), (q4, .inl (cI, 10, .inl (fun _ => (0 : Int32)))), (q5, .inl (cI, 10, .inl (fun _ => (0 : Int32)))), (q6, .inl (cI, 10, .inl (fun _ => (0 : Int32)))), (q7, .inl (cI, 10, .inl (fun _ => (0 : Int32))))] := hD
  refine lv_aload_n hx hb d_M_init_60 rfl (lv_at hl 0 rfl) ?_
  refine lv_bipush (v := (30 : Int32)) hx hb d_M_init_61 (by decide) ?_
  refine x_newT (atype := .int) (ty := .int) (a0 := (30, .inl (fun _ => (0 : Int32)))) (N' := 30) rfl (fun _ _ => rfl) hx hb (hts _ q_ac_int) hK hP hD hS hA 0 rfl (fun _ => rfl) (by decide) (by decide) (by decide +kernel) (by decide +kernel) (by decide +kernel) d_M_init_63 (fun q8 H hP hD hS => ?_)
  have hP : va_P D classes [(h0, .inr (1, [.int 0, .ref q1, .ref q2, .ref q3, .int 0, .ref q4, .ref q5, .ref q6, .ref q7, .int 0, .int 0, .null, .null, .null, .null, .null])), (q1, .inl (cI, 30, .inl (fun _ => (0 : Int32)))), (q2, .inl (cI, 30, .inl (fun _ => (0 : Int32)))), (q3, .inl (cI, 120, .inl (fun _ => (0 : Int32)))), (q4, .inl (cI, 10, .inl (fun _ => (0 : Int32)))), (q5, .inl (cI, 10, .inl (fun _ => (0 : Int32)))), (q6, .inl (cI, 10, .inl (fun _ => (0 : Int32)))), (q7, .inl (cI, 10, .inl (fun _ => (0 : Int32)))), (q8, .inl (cI, 30, .inl (fun _ => (0 : Int32))))] H := hP
  have hD : va_D A [(h0, .inr (1, [.int 0, .ref q1, .ref q2, .ref q3, .int 0, .ref q4, .ref q5, .ref q6, .ref q7, .int 0, .int 0, .null, .null, .null, .null, .null])), (q1, .inl (cI, 30, .inl (fun _ => (0 : Int32)))), (q2, .inl (cI, 30, .inl (fun _ => (0 : Int32)))), (q3, .inl (cI, 120, .inl (fun _ => (0 : Int32)))), (q4, .inl (cI, 10, .inl (fun _ => (0 : Int32)))), (q5, .inl (cI, 10, .inl (fun _ => (0 : Int32)))), (q6, .inl (cI, 10, .inl (fun _ => (0 : Int32)))), (q7, .inl (cI, 10, .inl (fun _ => (0 : Int32)))), (q8, .inl (cI, 30, .inl (fun _ => (0 : Int32))))] := hD
  refine W.widen (k := 8) (n := 250) (by omega) (by omega) ?_
  refine va_putF (D := D) (ci := 1) (v := .ref q8) (ty := .array .int) (C := R_M) (T := F_M) (N := 16) hx hb hts i_M t_M t_M_ok n_M hown hK hP hD hS 0 rfl rfl 11 (by decide) (hts _ fl_M_31) (fun _ h9 => h9) rfl hin rfl (by decide +kernel) rfl rfl (Nat.le_of_ble_eq_true rfl) d_M_init_65 (fun H locs hP hD hS => ?_)
  have hP : va_P D classes [(h0, .inr (1, [.int 0, .ref q1, .ref q2, .ref q3, .int 0, .ref q4, .ref q5, .ref q6, .ref q7, .int 0, .int 0, .ref q8, .null, .null, .null, .null])), (q1, .inl (cI, 30, .inl (fun _ => (0 : Int32)))), (q2, .inl (cI, 30, .inl (fun _ => (0 : Int32)))), (q3, .inl (cI, 120, .inl (fun _ => (0 : Int32)))), (q4, .inl (cI, 10, .inl (fun _ => (0 : Int32)))), (q5, .inl (cI, 10, .inl (fun _ => (0 : Int32)))), (q6, .inl (cI, 10, .inl (fun _ => (0 : Int32)))), (q7, .inl (cI, 10, .inl (fun _ => (0 : Int32)))), (q8, .inl (cI, 30, .inl (fun _ => (0 : Int32))))] H := hP
  have hD : va_D A [(h0, .inr (1, [.int 0, .ref q1, .ref q2, .ref q3, .int 0, .ref q4, .ref q5, .ref q6, .ref q7, .int 0, .int 0, .ref q8, .null, .null, .null, .null])), (q1, .inl (cI, 30, .inl (fun _ => (0 : Int32)))), (q2, .inl (cI, 30, .inl (fun _ => (0 : Int32)))), (q3, .inl (cI, 120, .inl (fun _ => (0 : Int32)))), (q4, .inl (cI, 10, .inl (fun _ => (0 : Int32)))), (q5, .inl (cI, 10, .inl (fun _ => (0 : Int32)))), (q6, .inl (cI, 10, .inl (fun _ => (0 : Int32)))), (q7, .inl (cI, 10, .inl (fun _ => (0 : Int32)))), (q8, .inl (cI, 30, .inl (fun _ => (0 : Int32))))] := hD
  refine lv_aload_n hx hb d_M_init_68 rfl (lv_at hl 0 rfl) ?_
  refine lv_bipush (v := (30 : Int32)) hx hb d_M_init_69 (by decide) ?_
  refine x_newT (atype := .int) (ty := .int) (a0 := (30, .inl (fun _ => (0 : Int32)))) (N' := 30) rfl (fun _ _ => rfl) hx hb (hts _ q_ac_int) hK hP hD hS hA 0 rfl (fun _ => rfl) (by decide) (by decide) (by decide +kernel) (by decide +kernel) (by decide +kernel) d_M_init_71 (fun q9 H hP hD hS => ?_)
  have hP : va_P D classes [(h0, .inr (1, [.int 0, .ref q1, .ref q2, .ref q3, .int 0, .ref q4, .ref q5, .ref q6, .ref q7, .int 0, .int 0, .ref q8, .null, .null, .null, .null])), (q1, .inl (cI, 30, .inl (fun _ => (0 : Int32)))), (q2, .inl (cI, 30, .inl (fun _ => (0 : Int32)))), (q3, .inl (cI, 120, .inl (fun _ => (0 : Int32)))), (q4, .inl (cI, 10, .inl (fun _ => (0 : Int32)))), (q5, .inl (cI, 10, .inl (fun _ => (0 : Int32)))), (q6, .inl (cI, 10, .inl (fun _ => (0 : Int32)))), (q7, .inl (cI, 10, .inl (fun _ => (0 : Int32)))), (q8, .inl (cI, 30, .inl (fun _ => (0 : Int32)))), (q9, .inl (cI, 30, .inl (fun _ => (0 : Int32))))] H := hP
  have hD : va_D A [(h0, .inr (1, [.int 0, .ref q1, .ref q2, .ref q3, .int 0, .ref q4, .ref q5, .ref q6, .ref q7, .int 0, .int 0, .ref q8, .null, .null, .null, .null])), (q1, .inl (cI, 30, .inl (fun _ => (0 : Int32)))), (q2, .inl (cI, 30, .inl (fun _ => (0 : Int32)))), (q3, .inl (cI, 120, .inl (fun _ => (0 : Int32)))), (q4, .inl (cI, 10, .inl (fun _ => (0 : Int32)))), (q5, .inl (cI, 10, .inl (fun _ => (0 : Int32)))), (q6, .inl (cI, 10, .inl (fun _ => (0 : Int32)))), (q7, .inl (cI, 10, .inl (fun _ => (0 : Int32)))), (q8, .inl (cI, 30, .inl (fun _ => (0 : Int32)))), (q9, .inl (cI, 30, .inl (fun _ => (0 : Int32))))] := hD
  refine W.widen (k := 9) (n := 280) (by omega) (by omega) ?_
  refine va_putF (D := D) (ci := 1) (v := .ref q9) (ty := .array .int) (C := R_M) (T := F_M) (N := 16) hx hb hts i_M t_M t_M_ok n_M hown hK hP hD hS 0 rfl rfl 12 (by decide) (hts _ fl_M_34) (fun _ h9 => h9) rfl hin rfl (by decide +kernel) rfl rfl (Nat.le_of_ble_eq_true rfl) d_M_init_73 (fun H locs hP hD hS => ?_)
  have hP : va_P D classes [(h0, .inr (1, [.int 0, .ref q1, .ref q2, .ref q3, .int 0, .ref q4, .ref q5, .ref q6, .ref q7, .int 0, .int 0, .ref q8, .ref q9, .null, .null, .null])), (q1, .inl (cI, 30, .inl (fun _ => (0 : Int32)))), (q2, .inl (cI, 30, .inl (fun _ => (0 : Int32)))), (q3, .inl (cI, 120, .inl (fun _ => (0 : Int32)))), (q4, .inl (cI, 10, .inl (fun _ => (0 : Int32)))), (q5, .inl (cI, 10, .inl (fun _ => (0 : Int32)))), (q6, .inl (cI, 10, .inl (fun _ => (0 : Int32)))), (q7, .inl (cI, 10, .inl (fun _ => (0 : Int32)))), (q8, .inl (cI, 30, .inl (fun _ => (0 : Int32)))), (q9, .inl (cI, 30, .inl (fun _ => (0 : Int32))))] H := hP
  have hD : va_D A [(h0, .inr (1, [.int 0, .ref q1, .ref q2, .ref q3, .int 0, .ref q4, .ref q5, .ref q6, .ref q7, .int 0, .int 0, .ref q8, .ref q9, .null, .null, .null])), (q1, .inl (cI, 30, .inl (fun _ => (0 : Int32)))), (q2, .inl (cI, 30, .inl (fun _ => (0 : Int32)))), (q3, .inl (cI, 120, .inl (fun _ => (0 : Int32)))), (q4, .inl (cI, 10, .inl (fun _ => (0 : Int32)))), (q5, .inl (cI, 10, .inl (fun _ => (0 : Int32)))), (q6, .inl (cI, 10, .inl (fun _ => (0 : Int32)))), (q7, .inl (cI, 10, .inl (fun _ => (0 : Int32)))), (q8, .inl (cI, 30, .inl (fun _ => (0 : Int32)))), (q9, .inl (cI, 30, .inl (fun _ => (0 : Int32))))] := hD
  refine lv_aload_n hx hb d_M_init_76 rfl (lv_at hl 0 rfl) ?_
  refine lv_sipush (v := (900 : Int32)) hx hb d_M_init_77 (by decide) ?_
  refine x_newT (atype := .int) (ty := .int) (a0 := (900, .inl (fun _ => (0 : Int32)))) (N' := 900) rfl (fun _ _ => rfl) hx hb (hts _ q_ac_int) hK hP hD hS hA 0 rfl (fun _ => rfl) (by decide) (by decide) (by decide +kernel) (by decide +kernel) (by decide +kernel) d_M_init_80 (fun q10 H hP hD hS => ?_)
  have hP : va_P D classes [(h0, .inr (1, [.int 0, .ref q1, .ref q2, .ref q3, .int 0, .ref q4, .ref q5, .ref q6, .ref q7, .int 0, .int 0, .ref q8, .ref q9, .null, .null, .null])), (q1, .inl (cI, 30, .inl (fun _ => (0 : Int32)))), (q2, .inl (cI, 30, .inl (fun _ => (0 : Int32)))), (q3, .inl (cI, 120, .inl (fun _ => (0 : Int32)))), (q4, .inl (cI, 10, .inl (fun _ => (0 : Int32)))), (q5, .inl (cI, 10, .inl (fun _ => (0 : Int32)))), (q6, .inl (cI, 10, .inl (fun _ => (0 : Int32)))), (q7, .inl (cI, 10, .inl (fun _ => (0 : Int32)))), (q8, .inl (cI, 30, .inl (fun _ => (0 : Int32)))), (q9, .inl (cI, 30, .inl (fun _ => (0 : Int32)))), (q10, .inl (cI, 900, .inl (fun _ => (0 : Int32))))] H := hP
  have hD : va_D A [(h0, .inr (1, [.int 0, .ref q1, .ref q2, .ref q3, .int 0, .ref q4, .ref q5, .ref q6, .ref q7, .int 0, .int 0, .ref q8, .ref q9, .null, .null, .null])), (q1, .inl (cI, 30, .inl (fun _ => (0 : Int32)))), (q2, .inl (cI, 30, .inl (fun _ => (0 : Int32)))), (q3, .inl (cI, 120, .inl (fun _ => (0 : Int32)))), (q4, .inl (cI, 10, .inl (fun _ => (0 : Int32)))), (q5, .inl (cI, 10, .inl (fun _ => (0 : Int32)))), (q6, .inl (cI, 10, .inl (fun _ => (0 : Int32)))), (q7, .inl (cI, 10, .inl (fun _ => (0 : Int32)))), (q8, .inl (cI, 30, .inl (fun _ => (0 : Int32)))), (q9, .inl (cI, 30, .inl (fun _ => (0 : Int32)))), (q10, .inl (cI, 900, .inl (fun _ => (0 : Int32))))] := hD
  refine W.widen (k := 10) (n := 1180) (by omega) (by omega) ?_
  refine va_putF (D := D) (ci := 1) (v := .ref q10) (ty := .array .int) (C := R_M) (T := F_M) (N := 16) hx hb hts i_M t_M t_M_ok n_M hown hK hP hD hS 0 rfl rfl 13 (by decide) (hts _ fl_M_37) (fun _ h9 => h9) rfl hin rfl (by decide +kernel) rfl rfl (Nat.le_of_ble_eq_true rfl) d_M_init_82 (fun H locs hP hD hS => ?_)
  have hP : va_P D classes [(h0, .inr (1, [.int 0, .ref q1, .ref q2, .ref q3, .int 0, .ref q4, .ref q5, .ref q6, .ref q7, .int 0, .int 0, .ref q8, .ref q9, .ref q10, .null, .null])), (q1, .inl (cI, 30, .inl (fun _ => (0 : Int32)))), (q2, .inl (cI, 30, .inl (fun _ => (0 : Int32)))), (q3, .inl (cI, 120, .inl (fun _ => (0 : Int32)))), (q4, .inl (cI, 10, .inl (fun _ => (0 : Int32)))), (q5, .inl (cI, 10, .inl (fun _ => (0 : Int32)))), (q6, .inl (cI, 10, .inl (fun _ => (0 : Int32)))), (q7, .inl (cI, 10, .inl (fun _ => (0 : Int32)))), (q8, .inl (cI, 30, .inl (fun _ => (0 : Int32)))), (q9, .inl (cI, 30, .inl (fun _ => (0 : Int32)))), (q10, .inl (cI, 900, .inl (fun _ => (0 : Int32))))] H := hP
  have hD : va_D A [(h0, .inr (1, [.int 0, .ref q1, .ref q2, .ref q3, .int 0, .ref q4, .ref q5, .ref q6, .ref q7, .int 0, .int 0, .ref q8, .ref q9, .ref q10, .null, .null])), (q1, .inl (cI, 30, .inl (fun _ => (0 : Int32)))), (q2, .inl (cI, 30, .inl (fun _ => (0 : Int32)))), (q3, .inl (cI, 120, .inl (fun _ => (0 : Int32)))), (q4, .inl (cI, 10, .inl (fun _ => (0 : Int32)))), (q5, .inl (cI, 10, .inl (fun _ => (0 : Int32)))), (q6, .inl (cI, 10, .inl (fun _ => (0 : Int32)))), (q7, .inl (cI, 10, .inl (fun _ => (0 : Int32)))), (q8, .inl (cI, 30, .inl (fun _ => (0 : Int32)))), (q9, .inl (cI, 30, .inl (fun _ => (0 : Int32)))), (q10, .inl (cI, 900, .inl (fun _ => (0 : Int32))))] := hD
  refine lv_aload_n hx hb d_M_init_85 rfl (lv_at hl 0 rfl) ?_
  refine lv_sipush (v := (900 : Int32)) hx hb d_M_init_86 (by decide) ?_
  refine va_newa (atype := .boolean) (ty := .boolean) (a0 := (900, .inl (fun _ => (0 : Int32)))) (N' := 900) hx hb (hts _ q_ac_bool) rfl hK hP hD hS hA (fun _ => rfl) (by decide) (by decide) (by decide +kernel) (by decide +kernel) (by decide +kernel) d_M_init_89 (fun q11 cZ H hK hP hD hS => ?_)
  have hK : va_K D classes [(cI, .int), (cZ, .boolean)] s := hK
  have hP : va_P D classes [(h0, .inr (1, [.int 0, .ref q1, .ref q2, .ref q3, .int 0, .ref q4, .ref q5, .ref q6, .ref q7, .int 0, .int 0, .ref q8, .ref q9, .ref q10, .null, .null])), (q1, .inl (cI, 30, .inl (fun _ => (0 : Int32)))), (q2, .inl (cI, 30, .inl (fun _ => (0 : Int32)))), (q3, .inl (cI, 120, .inl (fun _ => (0 : Int32)))), (q4, .inl (cI, 10, .inl (fun _ => (0 : Int32)))), (q5, .inl (cI, 10, .inl (fun _ => (0 : Int32)))), (q6, .inl (cI, 10, .inl (fun _ => (0 : Int32)))), (q7, .inl (cI, 10, .inl (fun _ => (0 : Int32)))), (q8, .inl (cI, 30, .inl (fun _ => (0 : Int32)))), (q9, .inl (cI, 30, .inl (fun _ => (0 : Int32)))), (q10, .inl (cI, 900, .inl (fun _ => (0 : Int32)))), (q11, .inl (cZ, 900, .inl (fun _ => (0 : Int32))))] H := hP
  have hD : va_D A [(h0, .inr (1, [.int 0, .ref q1, .ref q2, .ref q3, .int 0, .ref q4, .ref q5, .ref q6, .ref q7, .int 0, .int 0, .ref q8, .ref q9, .ref q10, .null, .null])), (q1, .inl (cI, 30, .inl (fun _ => (0 : Int32)))), (q2, .inl (cI, 30, .inl (fun _ => (0 : Int32)))), (q3, .inl (cI, 120, .inl (fun _ => (0 : Int32)))), (q4, .inl (cI, 10, .inl (fun _ => (0 : Int32)))), (q5, .inl (cI, 10, .inl (fun _ => (0 : Int32)))), (q6, .inl (cI, 10, .inl (fun _ => (0 : Int32)))), (q7, .inl (cI, 10, .inl (fun _ => (0 : Int32)))), (q8, .inl (cI, 30, .inl (fun _ => (0 : Int32)))), (q9, .inl (cI, 30, .inl (fun _ => (0 : Int32)))), (q10, .inl (cI, 900, .inl (fun _ => (0 : Int32)))), (q11, .inl (cZ, 900, .inl (fun _ => (0 : Int32))))] := hD
  refine W.widen (k := 11) (n := 2080) (by omega) (by omega) ?_
  refine va_putF (D := D) (ci := 1) (v := .ref q11) (ty := .array .boolean) (C := R_M) (T := F_M) (N := 16) hx hb hts i_M t_M t_M_ok n_M hown hK hP hD hS 0 rfl rfl 14 (by decide) (hts _ fl_M_40) (fun _ h9 => h9) rfl hin rfl (by decide +kernel) rfl rfl (Nat.le_of_ble_eq_true rfl) d_M_init_91 (fun H locs hP hD hS => ?_)
  have hP : va_P D classes [(h0, .inr (1, [.int 0, .ref q1, .ref q2, .ref q3, .int 0, .ref q4, .ref q5, .ref q6, .ref q7, .int 0, .int 0, .ref q8, .ref q9, .ref q10, .ref q11, .null])), (q1, .inl (cI, 30, .inl (fun _ => (0 : Int32)))), (q2, .inl (cI, 30, .inl (fun _ => (0 : Int32)))), (q3, .inl (cI, 120, .inl (fun _ => (0 : Int32)))), (q4, .inl (cI, 10, .inl (fun _ => (0 : Int32)))), (q5, .inl (cI, 10, .inl (fun _ => (0 : Int32)))), (q6, .inl (cI, 10, .inl (fun _ => (0 : Int32)))), (q7, .inl (cI, 10, .inl (fun _ => (0 : Int32)))), (q8, .inl (cI, 30, .inl (fun _ => (0 : Int32)))), (q9, .inl (cI, 30, .inl (fun _ => (0 : Int32)))), (q10, .inl (cI, 900, .inl (fun _ => (0 : Int32)))), (q11, .inl (cZ, 900, .inl (fun _ => (0 : Int32))))] H := hP
  have hD : va_D A [(h0, .inr (1, [.int 0, .ref q1, .ref q2, .ref q3, .int 0, .ref q4, .ref q5, .ref q6, .ref q7, .int 0, .int 0, .ref q8, .ref q9, .ref q10, .ref q11, .null])), (q1, .inl (cI, 30, .inl (fun _ => (0 : Int32)))), (q2, .inl (cI, 30, .inl (fun _ => (0 : Int32)))), (q3, .inl (cI, 120, .inl (fun _ => (0 : Int32)))), (q4, .inl (cI, 10, .inl (fun _ => (0 : Int32)))), (q5, .inl (cI, 10, .inl (fun _ => (0 : Int32)))), (q6, .inl (cI, 10, .inl (fun _ => (0 : Int32)))), (q7, .inl (cI, 10, .inl (fun _ => (0 : Int32)))), (q8, .inl (cI, 30, .inl (fun _ => (0 : Int32)))), (q9, .inl (cI, 30, .inl (fun _ => (0 : Int32)))), (q10, .inl (cI, 900, .inl (fun _ => (0 : Int32)))), (q11, .inl (cZ, 900, .inl (fun _ => (0 : Int32))))] := hD
  refine lv_aload_n hx hb d_M_init_94 rfl (lv_at hl 0 rfl) ?_
  refine lv_bipush (v := (30 : Int32)) hx hb d_M_init_95 (by decide) ?_
  refine x_newT (atype := .boolean) (ty := .boolean) (a0 := (30, .inl (fun _ => (0 : Int32)))) (N' := 30) rfl (fun _ _ => rfl) hx hb (hts _ q_ac_bool) hK hP hD hS hA 1 rfl (fun _ => rfl) (by decide) (by decide) (by decide +kernel) (by decide +kernel) (by decide +kernel) d_M_init_97 (fun q12 H hP hD hS => ?_)
  have hP : va_P D classes [(h0, .inr (1, [.int 0, .ref q1, .ref q2, .ref q3, .int 0, .ref q4, .ref q5, .ref q6, .ref q7, .int 0, .int 0, .ref q8, .ref q9, .ref q10, .ref q11, .null])), (q1, .inl (cI, 30, .inl (fun _ => (0 : Int32)))), (q2, .inl (cI, 30, .inl (fun _ => (0 : Int32)))), (q3, .inl (cI, 120, .inl (fun _ => (0 : Int32)))), (q4, .inl (cI, 10, .inl (fun _ => (0 : Int32)))), (q5, .inl (cI, 10, .inl (fun _ => (0 : Int32)))), (q6, .inl (cI, 10, .inl (fun _ => (0 : Int32)))), (q7, .inl (cI, 10, .inl (fun _ => (0 : Int32)))), (q8, .inl (cI, 30, .inl (fun _ => (0 : Int32)))), (q9, .inl (cI, 30, .inl (fun _ => (0 : Int32)))), (q10, .inl (cI, 900, .inl (fun _ => (0 : Int32)))), (q11, .inl (cZ, 900, .inl (fun _ => (0 : Int32)))), (q12, .inl (cZ, 30, .inl (fun _ => (0 : Int32))))] H := hP
  have hD : va_D A [(h0, .inr (1, [.int 0, .ref q1, .ref q2, .ref q3, .int 0, .ref q4, .ref q5, .ref q6, .ref q7, .int 0, .int 0, .ref q8, .ref q9, .ref q10, .ref q11, .null])), (q1, .inl (cI, 30, .inl (fun _ => (0 : Int32)))), (q2, .inl (cI, 30, .inl (fun _ => (0 : Int32)))), (q3, .inl (cI, 120, .inl (fun _ => (0 : Int32)))), (q4, .inl (cI, 10, .inl (fun _ => (0 : Int32)))), (q5, .inl (cI, 10, .inl (fun _ => (0 : Int32)))), (q6, .inl (cI, 10, .inl (fun _ => (0 : Int32)))), (q7, .inl (cI, 10, .inl (fun _ => (0 : Int32)))), (q8, .inl (cI, 30, .inl (fun _ => (0 : Int32)))), (q9, .inl (cI, 30, .inl (fun _ => (0 : Int32)))), (q10, .inl (cI, 900, .inl (fun _ => (0 : Int32)))), (q11, .inl (cZ, 900, .inl (fun _ => (0 : Int32)))), (q12, .inl (cZ, 30, .inl (fun _ => (0 : Int32))))] := hD
  refine W.widen (k := 12) (n := 2110) (by omega) (by omega) ?_
  refine va_putF (D := D) (ci := 1) (v := .ref q12) (ty := .array .boolean) (C := R_M) (T := F_M) (N := 16) hx hb hts i_M t_M t_M_ok n_M hown hK hP hD hS 0 rfl rfl 15 (by decide) (hts _ fl_M_44) (fun _ h9 => h9) rfl hin rfl (by decide +kernel) rfl rfl (Nat.le_of_ble_eq_true rfl) d_M_init_99 (fun H locs hP hD hS => ?_)
  have hP : va_P D classes [(h0, .inr (1, [.int 0, .ref q1, .ref q2, .ref q3, .int 0, .ref q4, .ref q5, .ref q6, .ref q7, .int 0, .int 0, .ref q8, .ref q9, .ref q10, .ref q11, .ref q12])), (q1, .inl (cI, 30, .inl (fun _ => (0 : Int32)))), (q2, .inl (cI, 30, .inl (fun _ => (0 : Int32)))), (q3, .inl (cI, 120, .inl (fun _ => (0 : Int32)))), (q4, .inl (cI, 10, .inl (fun _ => (0 : Int32)))), (q5, .inl (cI, 10, .inl (fun _ => (0 : Int32)))), (q6, .inl (cI, 10, .inl (fun _ => (0 : Int32)))), (q7, .inl (cI, 10, .inl (fun _ => (0 : Int32)))), (q8, .inl (cI, 30, .inl (fun _ => (0 : Int32)))), (q9, .inl (cI, 30, .inl (fun _ => (0 : Int32)))), (q10, .inl (cI, 900, .inl (fun _ => (0 : Int32)))), (q11, .inl (cZ, 900, .inl (fun _ => (0 : Int32)))), (q12, .inl (cZ, 30, .inl (fun _ => (0 : Int32))))] H := hP
  have hD : va_D A [(h0, .inr (1, [.int 0, .ref q1, .ref q2, .ref q3, .int 0, .ref q4, .ref q5, .ref q6, .ref q7, .int 0, .int 0, .ref q8, .ref q9, .ref q10, .ref q11, .ref q12])), (q1, .inl (cI, 30, .inl (fun _ => (0 : Int32)))), (q2, .inl (cI, 30, .inl (fun _ => (0 : Int32)))), (q3, .inl (cI, 120, .inl (fun _ => (0 : Int32)))), (q4, .inl (cI, 10, .inl (fun _ => (0 : Int32)))), (q5, .inl (cI, 10, .inl (fun _ => (0 : Int32)))), (q6, .inl (cI, 10, .inl (fun _ => (0 : Int32)))), (q7, .inl (cI, 10, .inl (fun _ => (0 : Int32)))), (q8, .inl (cI, 30, .inl (fun _ => (0 : Int32)))), (q9, .inl (cI, 30, .inl (fun _ => (0 : Int32)))), (q10, .inl (cI, 900, .inl (fun _ => (0 : Int32)))), (q11, .inl (cZ, 900, .inl (fun _ => (0 : Int32)))), (q12, .inl (cZ, 30, .inl (fun _ => (0 : Int32))))] := hD
  refine lv_aload_n hx hb d_M_init_102 rfl (lv_at hl 0 rfl) ?_
  refine lv_iconst (v := (0 : Int32)) hx hb d_M_init_103 (by decide) ?_
  refine va_put (D := D) (ci := 1) (v := .int (0 : Int32)) (ty := .int) (C := R_M) (T := F_M) (N := 16) hx hb hts i_M t_M t_M_ok n_M hown hK hP hD hS 0 rfl rfl 0 (by decide) (hts _ fl_M_47) (fun _ h9 => h9) rfl (by decide +kernel) rfl rfl (Nat.le_of_ble_eq_true rfl) d_M_init_104 (fun H locs hP hD hS => ?_)
  have hP : va_P D classes [(h0, .inr (1, [.int 0, .ref q1, .ref q2, .ref q3, .int 0, .ref q4, .ref q5, .ref q6, .ref q7, .int 0, .int 0, .ref q8, .ref q9, .ref q10, .ref q11, .ref q12])), (q1, .inl (cI, 30, .inl (fun _ => (0 : Int32)))), (q2, .inl (cI, 30, .inl (fun _ => (0 : Int32)))), (q3, .inl (cI, 120, .inl (fun _ => (0 : Int32)))), (q4, .inl (cI, 10, .inl (fun _ => (0 : Int32)))), (q5, .inl (cI, 10, .inl (fun _ => (0 : Int32)))), (q6, .inl (cI, 10, .inl (fun _ => (0 : Int32)))), (q7, .inl (cI, 10, .inl (fun _ => (0 : Int32)))), (q8, .inl (cI, 30, .inl (fun _ => (0 : Int32)))), (q9, .inl (cI, 30, .inl (fun _ => (0 : Int32)))), (q10, .inl (cI, 900, .inl (fun _ => (0 : Int32)))), (q11, .inl (cZ, 900, .inl (fun _ => (0 : Int32)))), (q12, .inl (cZ, 30, .inl (fun _ => (0 : Int32))))] H := hP
  have hD : va_D A [(h0, .inr (1, [.int 0, .ref q1, .ref q2, .ref q3, .int 0, .ref q4, .ref q5, .ref q6, .ref q7, .int 0, .int 0, .ref q8, .ref q9, .ref q10, .ref q11, .ref q12])), (q1, .inl (cI, 30, .inl (fun _ => (0 : Int32)))), (q2, .inl (cI, 30, .inl (fun _ => (0 : Int32)))), (q3, .inl (cI, 120, .inl (fun _ => (0 : Int32)))), (q4, .inl (cI, 10, .inl (fun _ => (0 : Int32)))), (q5, .inl (cI, 10, .inl (fun _ => (0 : Int32)))), (q6, .inl (cI, 10, .inl (fun _ => (0 : Int32)))), (q7, .inl (cI, 10, .inl (fun _ => (0 : Int32)))), (q8, .inl (cI, 30, .inl (fun _ => (0 : Int32)))), (q9, .inl (cI, 30, .inl (fun _ => (0 : Int32)))), (q10, .inl (cI, 900, .inl (fun _ => (0 : Int32)))), (q11, .inl (cZ, 900, .inl (fun _ => (0 : Int32)))), (q12, .inl (cZ, 30, .inl (fun _ => (0 : Int32))))] := hD
  have ew : wM (fun k => [h0, q1, q2, q3, q4, q5, q6, q7, q8, q9, q10, q11, q12].getD k 0) cI cZ 0 0 (fun _ _ => 0) (fun _ _ => 0) = [(h0, .inr (1, [.int 0, .ref q1, .ref q2, .ref q3, .int 0, .ref q4, .ref q5, .ref q6, .ref q7, .int 0, .int 0, .ref q8, .ref q9, .ref q10, .ref q11, .ref q12])), (q1, .inl (cI, 30, .inl (fun _ => (0 : Int32)))), (q2, .inl (cI, 30, .inl (fun _ => (0 : Int32)))), (q3, .inl (cI, 120, .inl (fun _ => (0 : Int32)))), (q4, .inl (cI, 10, .inl (fun _ => (0 : Int32)))), (q5, .inl (cI, 10, .inl (fun _ => (0 : Int32)))), (q6, .inl (cI, 10, .inl (fun _ => (0 : Int32)))), (q7, .inl (cI, 10, .inl (fun _ => (0 : Int32)))), (q8, .inl (cI, 30, .inl (fun _ => (0 : Int32)))), (q9, .inl (cI, 30, .inl (fun _ => (0 : Int32)))), (q10, .inl (cI, 900, .inl (fun _ => (0 : Int32)))), (q11, .inl (cZ, 900, .inl (fun _ => (0 : Int32)))), (q12, .inl (cZ, 30, .inl (fun _ => (0 : Int32))))] := by
    rfl
  exact W.vret hx hb hr (fun t ht hW => ⟨⟨((fun k => [h0, q1, q2, q3, q4, q5, q6, q7, q8, q9, q10, q11, q12].getD k 0), cI, cZ), rfl, rfl, by show va_P D classes (wM _ _ _ _ _ _ _) t.heap; rw [ew, ht]; exact hP, va_K.moved hW.alike hK, by show va_D A (wM _ _ _ _ _ _ _); rw [ew]; exact hD⟩, hS.F ht⟩) hS.2.2 d_M_init_107 hlocks
