/-! The base: calls, starts and ends of methods over one list of words (BW), for any world. -/
theorem BW_in {y : MethodName} {bytes : ByteArray} {maxL : Nat} {ret : Option FieldType} (h : Cond.code y bytes maxL ret ∈ BW) : GoodIn BW (Cond.code y bytes maxL ret :: BW) := by
  intro w hw
  rcases List.mem_cons.mp hw with rfl | hw
  · exact ⟨h, good_of_word (BW_good _ h)⟩
  · exact ⟨hw, good_of_word (BW_good _ hw)⟩
def okB (own : String) (index : Nat) (y : MethodName) (bytes : ByteArray) (maxL : Nat) (ret : Option FieldType) (n : Nat) : Prop := Cond.methodLink own index y ∈ BW ∧ Cond.code y bytes maxL ret ∈ BW ∧ Cond.initialized y.cls ∈ BW ∧ (y.cls ≠ "java/lang/invoke/MethodHandle" ∧ y.cls ≠ "java/lang/invoke/VarHandle" ∧ (parseMethodDescriptor y.desc).map (fun d => d.parameters.length) = some n)
def okV (own C : String) (index : Nat) (y : MethodName) (bytes : ByteArray) (maxL : Nat) (ret : Option FieldType) (n : Nat) : Prop := okB own index y bytes maxL ret n ∧ Cond.instanceMethod y ∈ BW ∧ Cond.selects C y y ∈ BW
def okS (own : String) (index : Nat) (y : MethodName) (bytes : ByteArray) (maxL : Nat) (ret : Option FieldType) (n : Nat) : Prop := okB own index y bytes maxL ret n ∧ Cond.static y ∈ BW
def okR (rm R : Room) (maxL mc ms : Nat) : Prop := rm.cells = mc ∧ rm.slots = ms ∧ rm.frames + 1 ≤ R.frames ∧ 8 + (maxL + 11) + rm.locals ≤ R.locals
abbrev PcR (D : va_G) (w : va_W) (tys : List (ClassId × FieldType)) (av : List Value) : Array Value → State → Prop := va_Pc av (fun U => va_P D classes w U.heap ∧ va_K D classes tys U)
abbrev PcW (D : va_G) (Z : Nat → Prop) (w : va_W) (tys : List (ClassId × FieldType)) (av : List Value) : Array Value → State → Prop := va_Pc av (fun U => va_P D classes w U.heap ∧ va_K D classes tys U ∧ va_D Z w)
abbrev atW {T : Type} (D : va_G) (wf : T → va_W) (tys : List (ClassId × FieldType)) (u : T) (t : State) : Prop := va_P D classes (wf u) t.heap ∧ va_K D classes tys t
theorem vp_lt {i : Int32} {n : Nat} (h : vp_in i n) : i.toNatClampNeg < n := Nat.not_le.mp fun q => h (Or.inr q)
def sU (A : Nat → Nat → Int32) (k j : Nat) (v : Int32) : Nat → Nat → Int32 := va_up A k (upd (A k) j v)
section XB
variable {p : Program} {l : Launch} {e : Env} {R : Room} {s : State} {m : MethodId} {args : Array Value} {below : List Frame} {meth : Method} {c : Code} {H : Heap} {locs : List Loc} {cells slots : Nat} {Q : State → Prop}
variable {cc bytes : ByteArray} {pc nL maxL index n mc ms : Nat} {ls : Array Slot} {rest As av st : List Value} {own C : String} {y : MethodName} {ret : Option FieldType} {rm : Room} {D : va_G} {w : va_W} {tys : List (ClassId × FieldType)} {post : Int32 → Prop} {b : Nat}
theorem x_iadd1 (hx : p.tables.exec = Jvm.exec) (hb : c.code = cc) {k : Nat} (hdg : decode cc pc = .ok (.iadd, 1)) (kk : W p l e R s m args below meth c H locs cells slots Q (F0 m (pc + 1) ls (.int (nI (k + 1)) :: rest))) : W p l e R s m args below meth c H locs cells slots Q (F0 m pc ls (.int 1 :: .int (nI k) :: rest)) :=
  lv_iadd hx hb hdg (by rw [nI_1]; exact kk)
theorem xB (ht : ∀ w ∈ BW, w.before args s = true) (o : okB own index y bytes maxL ret n) (hR : okR rm R maxL mc ms) : CallB R s args own index y bytes maxL ret (Cond.code y bytes maxL ret :: BW) rm mc ms n :=
  callB_of n ht (BW_in o.2.1) rfl hR.1 hR.2.1 (ht _ o.2.2.1) (ht _ o.1) o.2.2.2 hR.2.2
theorem xW (ht : ∀ w ∈ BW, w.before args s = true) (o : okV own C index y bytes maxL ret n) (hR : okR rm R maxL mc ms) : CallW R s args own C index y bytes maxL ret (Cond.code y bytes maxL ret :: BW) rm mc ms n :=
  ⟨xB ht o.1 hR, ht _ o.2.1, ht _ o.2.2⟩
theorem blindR {av : List Value} : FrameBlind (PcR D w tys av) := fun a U g mk q => ⟨q.1, q.2.1, va_K.moved (u := U) (U := U.calling g mk a) (Vm.Alike.refl U.vm) q.2.2⟩
theorem blindW {Z : Nat → Prop} {av : List Value} : FrameBlind (PcW D Z w tys av) := fun a U g mk q => ⟨q.1, q.2.1, va_K.moved (u := U) (U := U.calling g mk a) (Vm.Alike.refl U.vm) q.2.2.1, q.2.2.2⟩
/-- a call of a method that only reads -/
theorem xro (Sx : CallFix p m c cc nL s args BW own) (hM : Met l y (Cond.code y bytes maxL ret :: BW) rm (PcR D w tys (.ref b :: As)) (vp_Si post) 0 0 (fun _ => False)) (o : okV own C index y bytes maxL ret n) (hR : okR rm R maxL 0 0)
    (hK : va_K D classes tys s) (hP : va_P D classes w H) {ci q0 : Nat} {T : u_T} {NF : Nat} {fs : List Value} (hc : classes[ci]? = some (C, T, NF)) (he : w[q0]? = some (b, .inr (ci, fs)))
    (hn : As.length = n) (hl : ls.size = nL) (hst : st = As.reverse ++ .ref b :: rest) (hrest : (rest.map fun v => v.category).sum ≤ 8) (hdg : decode cc pc = .ok (.invokevirtual index, 3)) (hf : cells + 0 ≤ R.cells ∧ slots + 0 ≤ R.slots)
    (kk : ∀ r : Int32, post r → W p l e R s m args below meth c H locs cells slots Q (F0 m (pc + 3) ls (.int r :: rest))) : W p l e R s m args below meth c H locs cells slots Q (F0 m pc ls st) :=
  vp_callSi (W.runV (As := As) (rest := rest) (b := b) Sx hM (xW Sx.2.2.2.2 o hR) ⟨blindR, va_recv hK hP hc he, fun U hU hW => ⟨rfl, by rw [hU]; exact hP, va_K.moved hW.alike hK⟩⟩ rfl hn hl hst (lv_room hrest) hdg hf) kk
/-- a call of a static method that takes and gives numbers -/
theorem xst (Sx : CallFix p m c cc nL s args BW own) (hM : Met l y (Cond.code y bytes maxL ret :: BW) rm (va_Pc As (fun _ => True)) (vp_Si post) 0 0 (fun _ => False)) (o : okS own index y bytes maxL ret n) (hR : okR rm R maxL 0 0)
    (hn : As.length = n) (hl : ls.size = nL) (hst : st = As.reverse ++ rest) (hrest : (rest.map fun v => v.category).sum ≤ 8) (hdg : decode cc pc = .ok (.invokestatic index, 3)) (hf : cells + 0 ≤ R.cells ∧ slots + 0 ≤ R.slots)
    (kk : ∀ r : Int32, post r → W p l e R s m args below meth c H locs cells slots Q (F0 m (pc + 3) ls (.int r :: rest))) : W p l e R s m args below meth c H locs cells slots Q (F0 m pc ls st) :=
  vp_callSi (W.runS (As := As) (rest := rest) Sx hM ⟨xB Sx.2.2.2.2 o.1 hR, Sx.2.2.2.2 _ o.2⟩ ⟨fun _ _ _ _ q => q, fun _ _ _ => ⟨rfl, trivial⟩⟩ rfl hn hl hst (lv_room hrest) hdg hf) kk
/-- a call of a method that writes in its own world, and answers a number -/
theorem xwi {T : Type} {wf : T → va_W} {po : Int32 → T → Prop} {Z A0 : Nat → Prop} {H0 : Heap} (Sx : CallFix p m c cc nL s args BW own) (hM : Met l y (Cond.code y bytes maxL ret :: BW) rm (PcW D Z w tys (.ref b :: As)) (va_Qi po (atW D wf tys) Z) 0 0 Z) (o : okV own C index y bytes maxL ret n) (hR : okR rm R maxL 0 0)
    (hK : va_K D classes tys s) (hP : va_P D classes w H) {ci q0 : Nat} {T' : u_T} {NF : Nat} {fs : List Value} (hc : classes[ci]? = some (C, T', NF)) (he : w[q0]? = some (b, .inr (ci, fs))) (hD : va_D Z w) (hS : va_S A0 H0 H locs) (hZ : ∀ q, Z q → A0 q)
    (hn : As.length = n) (hl : ls.size = nL) (hst : st = As.reverse ++ .ref b :: rest) (hrest : (rest.map fun v => v.category).sum ≤ 8) (hdg : decode cc pc = .ok (.invokevirtual index, 3)) (hf : cells + 0 ≤ R.cells ∧ slots + 0 ≤ R.slots)
    (kk : ∀ (r : Int32) (u : T) (H1 : Heap) (locs1 : List Loc), po r u → va_P D classes (wf u) H1 → va_S A0 H0 H1 locs1 → W p l e R s m args below meth c H1 locs1 cells slots Q (F0 m (pc + 3) ls (.int r :: rest))) : W p l e R s m args below meth c H locs cells slots Q (F0 m pc ls st) :=
  va_calli (va_runV (As := As) (rest := rest) (b := b) Sx hM (xW Sx.2.2.2.2 o hR) ⟨blindW, va_recv hK hP hc he, fun U hU hW => ⟨rfl, by rw [hU]; exact hP, va_K.moved hW.alike hK, hD⟩⟩ rfl hn hl hst (lv_room hrest) hdg hf) hS (fun q _ h => hZ q h) hZ
    (fun r u t H1 locs1 ht _ hp hB _ _ hS1 => kk r u H1 locs1 hp (by rw [← ht]; exact hB.1) hS1)
/-- the same, of a method without an answer -/
theorem xwv {T : Type} {wf : T → va_W} {po : T → Prop} {Z A0 : Nat → Prop} {H0 : Heap} (Sx : CallFix p m c cc nL s args BW own) (hM : Met l y (Cond.code y bytes maxL ret :: BW) rm (PcW D Z w tys (.ref b :: As)) (va_Qv po (atW D wf tys) Z) 0 0 Z) (o : okV own C index y bytes maxL ret n) (hR : okR rm R maxL 0 0)
    (hK : va_K D classes tys s) (hP : va_P D classes w H) {ci q0 : Nat} {T' : u_T} {NF : Nat} {fs : List Value} (hc : classes[ci]? = some (C, T', NF)) (he : w[q0]? = some (b, .inr (ci, fs))) (hD : va_D Z w) (hS : va_S A0 H0 H locs) (hZ : ∀ q, Z q → A0 q)
    (hn : As.length = n) (hl : ls.size = nL) (hst : st = As.reverse ++ .ref b :: rest) (hrest : (rest.map fun v => v.category).sum ≤ 8) (hdg : decode cc pc = .ok (.invokevirtual index, 3)) (hf : cells + 0 ≤ R.cells ∧ slots + 0 ≤ R.slots)
    (kk : ∀ (u : T) (H1 : Heap) (locs1 : List Loc), po u → va_P D classes (wf u) H1 → va_S A0 H0 H1 locs1 → W p l e R s m args below meth c H1 locs1 cells slots Q (F0 m (pc + 3) ls rest)) : W p l e R s m args below meth c H locs cells slots Q (F0 m pc ls st) :=
  va_callv (va_runV (As := As) (rest := rest) (b := b) Sx hM (xW Sx.2.2.2.2 o hR) ⟨blindW, va_recv hK hP hc he, fun U hU hW => ⟨rfl, by rw [hU]; exact hP, va_K.moved hW.alike hK, hD⟩⟩ rfl hn hl hst (lv_room hrest) hdg hf) hS (fun q _ h => hZ q h) hZ
    (fun u t H1 locs1 ht _ hp hB _ _ hS1 => kk u H1 locs1 hp (by rw [← ht]; exact hB.1) hS1)
theorem roStart {av : List Value} (hy : plainName y.cls = true) (ho : y.cls = own) (hle : (lg_sl av).length ≤ maxL)
    (body : ∀ (p : Program) (e : Env) (s : State) (m : MethodId) (below : List Frame) (meth : Method) (c : Code), CallFix p m c bytes maxL s av.toArray BW own → meth.sig.returnType = ret → meth.locks = false → va_P D classes w s.heap → va_K D classes tys s → ∀ ls : Array Slot, lv_has ls maxL (lv_args 0 av) →
      W p l e rm s m av.toArray below meth c s.heap [] 0 0 (MQ below (vp_Si post) av.toArray s 0 0 (fun _ => False)) (F0 m 0 ls [])) : Met l y (Cond.code y bytes maxL ret :: BW) rm (PcR D w tys av) (vp_Si post) 0 0 (fun _ => False) := by
  refine Met.ofW (cc := bytes) (maxL := maxL) (ret := ret) hy rfl ?_
  intro p e s m args below meth c s₁ B hml hv
  obtain ⟨rfl, hP, hK⟩ := hv
  have hts := atoms_spec (ws := Cond.code y bytes maxL ret :: BW) B.pre
  rw [lg_entry_eq]
  exact body p e s m below meth c ⟨B.exec, B.bytes, hml, by rw [← ho]; exact findClass_of_methodNamed B.named, fun w h => hts w (List.mem_cons_of_mem _ h)⟩ B.returns B.notSynchronized hP hK _ (lv_entry av hle)
theorem stStart {av : List Value} (hy : plainName y.cls = true) (ho : y.cls = own) (hle : (lg_sl av).length ≤ maxL)
    (body : ∀ (p : Program) (e : Env) (s : State) (m : MethodId) (below : List Frame) (meth : Method) (c : Code), CallFix p m c bytes maxL s av.toArray BW own → meth.sig.returnType = ret → meth.locks = false → ∀ ls : Array Slot, lv_has ls maxL (lv_args 0 av) →
      W p l e rm s m av.toArray below meth c s.heap [] 0 0 (MQ below (vp_Si post) av.toArray s 0 0 (fun _ => False)) (F0 m 0 ls [])) : Met l y (Cond.code y bytes maxL ret :: BW) rm (va_Pc av (fun _ => True)) (vp_Si post) 0 0 (fun _ => False) := by
  refine Met.ofW (cc := bytes) (maxL := maxL) (ret := ret) hy rfl ?_
  intro p e s m args below meth c s₁ B hml hv
  obtain ⟨rfl, -⟩ := hv
  have hts := atoms_spec (ws := Cond.code y bytes maxL ret :: BW) B.pre
  rw [lg_entry_eq]
  exact body p e s m below meth c ⟨B.exec, B.bytes, hml, by rw [← ho]; exact findClass_of_methodNamed B.named, fun w h => hts w (List.mem_cons_of_mem _ h)⟩ B.returns B.notSynchronized _ (lv_entry av hle)
theorem wStart {T : Type} {wf : T → va_W} {po : Int32 → T → Prop} {Z : Nat → Prop} {av : List Value} (hy : plainName y.cls = true) (ho : y.cls = own) (hle : (lg_sl av).length ≤ maxL)
    (body : ∀ (p : Program) (e : Env) (s : State) (m : MethodId) (below : List Frame) (meth : Method) (c : Code), CallFix p m c bytes maxL s av.toArray BW own → meth.sig.returnType = ret → meth.locks = false → va_P D classes w s.heap → va_K D classes tys s → va_D Z w → va_S Z s.heap s.heap [] → ∀ ls : Array Slot, lv_has ls maxL (lv_args 0 av) →
      W p l e rm s m av.toArray below meth c s.heap [] 0 0 (MQ below (va_Qi po (atW D wf tys) Z) av.toArray s 0 0 Z) (F0 m 0 ls [])) : Met l y (Cond.code y bytes maxL ret :: BW) rm (PcW D Z w tys av) (va_Qi po (atW D wf tys) Z) 0 0 Z := by
  refine Met.ofW (cc := bytes) (maxL := maxL) (ret := ret) hy rfl ?_
  intro p e s m args below meth c s₁ B hml hv
  obtain ⟨rfl, hP, hK, hD⟩ := hv
  have hts := atoms_spec (ws := Cond.code y bytes maxL ret :: BW) B.pre
  rw [lg_entry_eq]
  exact body p e s m below meth c ⟨B.exec, B.bytes, hml, by rw [← ho]; exact findClass_of_methodNamed B.named, fun w h => hts w (List.mem_cons_of_mem _ h)⟩ B.returns B.notSynchronized hP hK hD va_S.rf _ (lv_entry av hle)
theorem wStartV {T : Type} {wf : T → va_W} {po : T → Prop} {Z : Nat → Prop} {av : List Value} (hy : plainName y.cls = true) (ho : y.cls = own) (hle : (lg_sl av).length ≤ maxL)
    (body : ∀ (p : Program) (e : Env) (s : State) (m : MethodId) (below : List Frame) (meth : Method) (c : Code), CallFix p m c bytes maxL s av.toArray BW own → meth.sig.returnType = ret → meth.locks = false → va_P D classes w s.heap → va_K D classes tys s → va_D Z w → va_S Z s.heap s.heap [] → ∀ ls : Array Slot, lv_has ls maxL (lv_args 0 av) →
      W p l e rm s m av.toArray below meth c s.heap [] 0 0 (MQ below (va_Qv po (atW D wf tys) Z) av.toArray s 0 0 Z) (F0 m 0 ls [])) : Met l y (Cond.code y bytes maxL ret :: BW) rm (PcW D Z w tys av) (va_Qv po (atW D wf tys) Z) 0 0 Z := by
  refine Met.ofW (cc := bytes) (maxL := maxL) (ret := ret) hy rfl ?_
  intro p e s m args below meth c s₁ B hml hv
  obtain ⟨rfl, hP, hK, hD⟩ := hv
  have hts := atoms_spec (ws := Cond.code y bytes maxL ret :: BW) B.pre
  rw [lg_entry_eq]
  exact body p e s m below meth c ⟨B.exec, B.bytes, hml, by rw [← ho]; exact findClass_of_methodNamed B.named, fun w h => hts w (List.mem_cons_of_mem _ h)⟩ B.returns B.notSynchronized hP hK hD va_S.rf _ (lv_entry av hle)
theorem roRet {v : Int32} {ty : FieldType} (hx : p.tables.exec = Jvm.exec) (hb : c.code = cc) (hr : meth.sig.returnType = some ty) (hn : narrow ty (.int v) = .int v) (hlk : meth.locks = false) (hv : post v) (hdg : decode cc pc = .ok (.ireturn, 1)) : W p l e R s m args below meth c s.heap [] cells slots (MQ below (vp_Si post) args s cells slots (fun _ => False)) (F0 m pc ls [.int v]) :=
  W.zret hx hb hr hn (fun _ ht _ => ⟨v, rfl, hv, ht⟩) (fun _ h => by cases h) hdg hlk
theorem wRet {T : Type} {wf : T → va_W} {po : Int32 → T → Prop} {Z : Nat → Prop} {v : Int32} {u : T} {ty : FieldType} (hx : p.tables.exec = Jvm.exec) (hb : c.code = cc) (hr : meth.sig.returnType = some ty) (hn : narrow ty (.int v) = .int v) (hlk : meth.locks = false) (hv : po v u) (hP : va_P D classes (wf u) H) (hK : va_K D classes tys s) (hS : va_S Z s.heap H locs) (hdg : decode cc pc = .ok (.ireturn, 1)) : W p l e R s m args below meth c H locs cells slots (MQ below (va_Qi po (atW D wf tys) Z) args s cells slots Z) (F0 m pc ls [.int v]) :=
  W.zret hx hb hr hn (fun t ht hW => ⟨⟨v, u, rfl, hv, by rw [ht]; exact hP, va_K.moved hW.alike hK⟩, hS.F ht⟩) hS.2.2 hdg hlk
theorem wRetV {T : Type} {wf : T → va_W} {po : T → Prop} {Z : Nat → Prop} {u : T} (hx : p.tables.exec = Jvm.exec) (hb : c.code = cc) (hr : meth.sig.returnType = none) (hlk : meth.locks = false) (hv : po u) (hP : va_P D classes (wf u) H) (hK : va_K D classes tys s) (hS : va_S Z s.heap H locs) (hdg : decode cc pc = .ok (.return_, 1)) : W p l e R s m args below meth c H locs cells slots (MQ below (va_Qv po (atW D wf tys) Z) args s cells slots Z) (F0 m pc ls []) :=
  W.vret hx hb hr (fun t ht hW => ⟨⟨u, rfl, hv, by rw [ht]; exact hP, va_K.moved hW.alike hK⟩, hS.F ht⟩) hS.2.2 hdg hlk
end XB
theorem v_C_isThing : okV R_C R_C 40 y_C_isThing b_C_isThing 2 (some .boolean) 1 := ⟨⟨q_ml_C_40, q_code_C_isThing, q_ini_C, by decide +kernel⟩, q_im_C_isThing, q_sel_C_isThing⟩
theorem v_C_isDoor : okV R_C R_C 55 y_C_isDoor b_C_isDoor 2 (some .boolean) 1 := ⟨⟨q_ml_C_55, q_code_C_isDoor, q_ini_C, by decide +kernel⟩, q_im_C_isDoor, q_sel_C_isDoor⟩
theorem v_C_sortOf : okV R_C R_C 44 y_C_sortOf b_C_sortOf 2 (some .int) 1 := ⟨⟨q_ml_C_44, q_code_C_sortOf, q_ini_C, by decide +kernel⟩, q_im_C_sortOf, q_sel_C_sortOf⟩
theorem v_C_holderOf : okV R_C R_C 74 y_C_holderOf b_C_holderOf 2 (some .int) 1 := ⟨⟨q_ml_C_74, q_code_C_holderOf, q_ini_C, by decide +kernel⟩, q_im_C_holderOf, q_sel_C_holderOf⟩
theorem v_C_markOf : okV R_C R_C 86 y_C_markOf b_C_markOf 3 (some .int) 2 := ⟨⟨q_ml_C_86, q_code_C_markOf, q_ini_C, by decide +kernel⟩, q_im_C_markOf, q_sel_C_markOf⟩
theorem v_C_isPerson : okV R_C R_C 58 y_C_isPerson b_C_isPerson 2 (some .boolean) 1 := ⟨⟨q_ml_C_58, q_code_C_isPerson, q_ini_C, by decide +kernel⟩, q_im_C_isPerson, q_sel_C_isPerson⟩
theorem v_C_isShutBox : okV R_C R_C 71 y_C_isShutBox b_C_isShutBox 2 (some .boolean) 1 := ⟨⟨q_ml_C_71, q_code_C_isShutBox, q_ini_C, by decide +kernel⟩, q_im_C_isShutBox, q_sel_C_isShutBox⟩
theorem v_C_isSpace : okV R_C R_C 89 y_C_isSpace b_C_isSpace 3 (some .boolean) 1 := ⟨⟨q_ml_C_89, q_code_C_isSpace, q_ini_C, by decide +kernel⟩, q_im_C_isSpace, q_sel_C_isSpace⟩
theorem v_C_mayBeGivenTo : okV R_C R_C 68 y_C_mayBeGivenTo b_C_mayBeGivenTo 3 (some .boolean) 1 := ⟨⟨q_ml_C_68, q_code_C_mayBeGivenTo, q_ini_C, by decide +kernel⟩, q_im_C_mayBeGivenTo, q_sel_C_mayBeGivenTo⟩
theorem v_C_hasInHands : okV R_C R_C 65 y_C_hasInHands b_C_hasInHands 3 (some .boolean) 2 := ⟨⟨q_ml_C_65, q_code_C_hasInHands, q_ini_C, by decide +kernel⟩, q_im_C_hasInHands, q_sel_C_hasInHands⟩
theorem v_C_isFull : okV R_C R_C 52 y_C_isFull b_C_isFull 2 (some .boolean) 1 := ⟨⟨q_ml_C_52, q_code_C_isFull, q_ini_C, by decide +kernel⟩, q_im_C_isFull, q_sel_C_isFull⟩
theorem v_C_countHeldBy : okV R_C R_C 80 y_C_countHeldBy b_C_countHeldBy 4 (some .int) 1 := ⟨⟨q_ml_C_80, q_code_C_countHeldBy, q_ini_C, by decide +kernel⟩, q_im_C_countHeldBy, q_sel_C_countHeldBy⟩
theorem v_C_countWithin : okV R_C R_C 83 y_C_countWithin b_C_countWithin 4 (some .int) 1 := ⟨⟨q_ml_C_83, q_code_C_countWithin, q_ini_C, by decide +kernel⟩, q_im_C_countWithin, q_sel_C_countWithin⟩
theorem v_C_isWithin : okV R_C R_C 48 y_C_isWithin b_C_isWithin 5 (some .boolean) 2 := ⟨⟨q_ml_C_48, q_code_C_isWithin, q_ini_C, by decide +kernel⟩, q_im_C_isWithin, q_sel_C_isWithin⟩
theorem v_C_spaceOf : okV R_C R_C 77 y_C_spaceOf b_C_spaceOf 4 (some .int) 1 := ⟨⟨q_ml_C_77, q_code_C_spaceOf, q_ini_C, by decide +kernel⟩, q_im_C_spaceOf, q_sel_C_spaceOf⟩
theorem v_C_firstBarrier : okV R_C R_C 61 y_C_firstBarrier b_C_firstBarrier 5 (some .int) 2 := ⟨⟨q_ml_C_61, q_code_C_firstBarrier, q_ini_C, by decide +kernel⟩, q_im_C_firstBarrier, q_sel_C_firstBarrier⟩
theorem v_C_turningPoint : okV R_C R_C 112 y_C_turningPoint b_C_turningPoint 5 (some .int) 2 := ⟨⟨q_ml_C_112, q_code_C_turningPoint, q_ini_C, by decide +kernel⟩, q_im_C_turningPoint, q_sel_C_turningPoint⟩
theorem v_C_firstBarrierOut : okV R_C R_C 115 y_C_firstBarrierOut b_C_firstBarrierOut 5 (some .int) 2 := ⟨⟨q_ml_C_115, q_code_C_firstBarrierOut, q_ini_C, by decide +kernel⟩, q_im_C_firstBarrierOut, q_sel_C_firstBarrierOut⟩
theorem v_C_firstBarrierIn : okV R_C R_C 118 y_C_firstBarrierIn b_C_firstBarrierIn 6 (some .int) 2 := ⟨⟨q_ml_C_118, q_code_C_firstBarrierIn, q_ini_C, by decide +kernel⟩, q_im_C_firstBarrierIn, q_sel_C_firstBarrierIn⟩
theorem v_C_wallLoss : okV R_C R_C 135 y_C_wallLoss b_C_wallLoss 3 (some .int) 2 := ⟨⟨q_ml_C_135, q_code_C_wallLoss, q_ini_C, by decide +kernel⟩, q_im_C_wallLoss, q_sel_C_wallLoss⟩
theorem v_C_doorLoss : okV R_C R_C 142 y_C_doorLoss b_C_doorLoss 4 (some .int) 2 := ⟨⟨q_ml_C_142, q_code_C_doorLoss, q_ini_C, by decide +kernel⟩, q_im_C_doorLoss, q_sel_C_doorLoss⟩
theorem v_C_fillFromAllThings : okV R_C R_C 92 y_C_fillFromAllThings b_C_fillFromAllThings 4 none 1 := ⟨⟨q_ml_C_92, q_code_C_fillFromAllThings, q_ini_C, by decide +kernel⟩, q_im_C_fillFromAllThings, q_sel_C_fillFromAllThings⟩
theorem v_C_fillFromOneSpace : okV R_C R_C 96 y_C_fillFromOneSpace b_C_fillFromOneSpace 3 none 2 := ⟨⟨q_ml_C_96, q_code_C_fillFromOneSpace, q_ini_C, by decide +kernel⟩, q_im_C_fillFromOneSpace, q_sel_C_fillFromOneSpace⟩
theorem v_C_lossAt : okV R_C R_C 100 y_C_lossAt b_C_lossAt 2 (some .int) 1 := ⟨⟨q_ml_C_100, q_code_C_lossAt, q_ini_C, by decide +kernel⟩, q_im_C_lossAt, q_sel_C_lossAt⟩
theorem v_C_spread : okV R_C R_C 132 y_C_spread b_C_spread 6 none 1 := ⟨⟨q_ml_C_132, q_code_C_spread, q_ini_C, by decide +kernel⟩, q_im_C_spread, q_sel_C_spread⟩
theorem v_C_spreadOver : okV R_C R_C 138 y_C_spreadOver b_C_spreadOver 4 (some .boolean) 3 := ⟨⟨q_ml_C_138, q_code_C_spreadOver, q_ini_C, by decide +kernel⟩, q_im_C_spreadOver, q_sel_C_spreadOver⟩
theorem v_C_partHeardOf : okV R_C R_C 109 y_C_partHeardOf b_C_partHeardOf 3 (some .int) 1 := ⟨⟨q_ml_C_109, q_code_C_partHeardOf, q_ini_C, by decide +kernel⟩, q_im_C_partHeardOf, q_sel_C_partHeardOf⟩
theorem v_C_viewOf : okV R_C R_C 103 y_C_viewOf b_C_viewOf 4 (some .int) 1 := ⟨⟨q_ml_C_103, q_code_C_viewOf, q_ini_C, by decide +kernel⟩, q_im_C_viewOf, q_sel_C_viewOf⟩
theorem v_C_widenedOverWalls : okV R_C R_C 145 y_C_widenedOverWalls b_C_widenedOverWalls 7 (some .int) 1 := ⟨⟨q_ml_C_145, q_code_C_widenedOverWalls, q_ini_C, by decide +kernel⟩, q_im_C_widenedOverWalls, q_sel_C_widenedOverWalls⟩
theorem v_C_widenedOverOneDoor : okV R_C R_C 148 y_C_widenedOverOneDoor b_C_widenedOverOneDoor 4 (some .int) 1 := ⟨⟨q_ml_C_148, q_code_C_widenedOverOneDoor, q_ini_C, by decide +kernel⟩, q_im_C_widenedOverOneDoor, q_sel_C_widenedOverOneDoor⟩
theorem v_C_endsIfTouched : okS R_C 151 y_C_endsIfTouched b_C_endsIfTouched 4 (some .int) 3 := ⟨⟨q_ml_C_151, q_code_C_endsIfTouched, q_ini_C, by decide +kernel⟩, q_st_C_endsIfTouched⟩
theorem v_C_isSeen : okV R_C R_C 106 y_C_isSeen b_C_isSeen 4 (some .boolean) 2 := ⟨⟨q_ml_C_106, q_code_C_isSeen, q_ini_C, by decide +kernel⟩, q_im_C_isSeen, q_sel_C_isSeen⟩
theorem v_A_fill : okS R_C 121 y_A_fill b_A_fill 4 none 2 := ⟨⟨q_ml_C_121, q_code_A_fill, q_ini_A, by decide +kernel⟩, q_st_A_fill⟩
theorem k_mmax_link : Cond.methodLink R_C 127 Lib.Math.max.name ∈ BW := q_ml_C_127
theorem k_mmax_stat : Cond.static Lib.Math.max.name ∈ BW := q_st_X_max
theorem k_mmax_ini : Cond.initialized "java/lang/Math" ∈ BW := q_ini_X
theorem k_mmax_code : Cond.code Lib.Math.max.name Lib.Math.max.code 2 (some .int) ∈ BW := q_code_X_max
