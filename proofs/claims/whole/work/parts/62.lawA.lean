/-! THE CLAIM OUT OF ONE WALK OF THE LAW'S BODY. Your part is whole_start (and what it stands on); all else here is the same for every law, but numbers. -/
def lw_P (b : Addr) (xs : List Int32) (args : Array Value) (s : State) : Prop := args = #[.ref b] ∧ s.IntsAt b xs ∧ xs.length ≤ 2048 ∧ (Jvm.Cond.and given_1 narrow_1).before args s = true
def lw_Q (_ : Array Value) (s : State) (o : Outcome) (t : State) : Prop := o = .returned (some (.int 1)) ∧ Framed s o t [] 600000 7302250
def lw_Z (below : List Frame) (a : Array Value) (s : State) : State → Prop := fun t => ∃ o, t.status = .running ∧ Ended t below o ∧ lw_Q a s o t
/-- the law's own end, with 1 on the stack, nothing written that was there before, its room as the claim has it -/
theorem lw_ret {p : Program} {l : Launch} {e : Env} {s : State} {m : MethodId} {below : List Frame} {meth : Method} {c : Code} {b : Nat} (hx : p.tables.exec = Jvm.exec) (hb : c.code = code) (hr : meth.sig.returnType = ret) (hlocks : meth.locks = false) {pc : Nat} {H : Heap} {ls : Array Slot} (hdg : decode code pc = .ok (.ireturn, 1)) : W p l e room_1 s m #[Value.ref b] below meth c H [] 600000 7302250 (lw_Z below #[Value.ref b] s) (F0 m pc ls [.int 1]) := by
  intro T hT X
  obtain ⟨fs, hret, hrun, hended, hW, hframe⟩ := X.leave (v := some (.int 1)) (hlocks := hlocks) (fun h => by rw [hr] at h; cases h)
  have hmeth' : T.vm.method? m = some meth := X.method'
  refine ⟨T.setFrames fs, ?_, .returned (some (.int 1)), hrun, hended, rfl, ⟨_, rfl⟩, hW, hframe⟩
  jvm_step X.here [X.here.top, hx, hb, hdg, hmeth', hr, ret, narrow_b1]
  (try refine ⟨rfl, ?_⟩); (try refine ⟨rfl, ?_⟩)
  first | (intro acts; rw [hret _ acts rfl rfl rfl]) | rw [hret _ _ rfl rfl rfl]
  exact Steps.refl _
/-- what holds at the law's entry: the machine, the code, the tables' words (any of lw_tbl by 'hts w (by decide +kernel)'), the script of L ints xs at the cell b, what the Statement gives of the start (any of its parts by flat_of_before) -/
def lw_At (p : Program) (s : State) (m : MethodId) (meth : Method) (c : Code) (b L : Nat) (xs : Nat → Int32) : Prop :=
  p.tables.exec = Jvm.exec ∧ c.code = code ∧ meth.sig.returnType = ret ∧ c.maxLocals = 4 ∧ s.vm.findClass R_law = some m.cls ∧ (∀ w ∈ lw_tbl, w.before #[Value.ref b] s = true) ∧ va_X b L xs s s.heap ∧ b < s.heap.size ∧ meth.locks = false ∧ (Jvm.Cond.and given_1 narrow_1).before #[Value.ref b] s = true
/-! The law: calls of the two objects, each in its own world; what isn't a call's own stays. -/
section LX
variable {p : Program} {l : Launch} {e : Env} {R : Room} {s : State} {m : MethodId} {args : Array Value} {below : List Frame} {meth : Method} {c : Code} {H : Heap} {locs : List Loc} {cells slots : Nat} {Q : State → Prop}
variable {cc bytes : ByteArray} {pc nL maxL index n : Nat} {ls : Array Slot} {rest As st : List Value} {own C : String} {y : MethodName} {ret : Option FieldType} {rm : Room} {D : va_G} {w : va_W} {tys : List (ClassId × FieldType)} {b : Nat}
/-- a call of a method that writes in its own world, and answers a number; what isn't its own stays -/
theorem xwiK {T : Type} {wf : T → va_W} {po : Int32 → T → Prop} {Z A0 : Nat → Prop} {H0 : Heap} (Sx : CallFix p m c cc nL s args BW own) (hM : Met l y (Cond.code y bytes maxL ret :: BW) rm (PcW D Z w tys (.ref b :: As)) (va_Qi po (atW D wf tys) Z) 0 0 Z) (o : okV own C index y bytes maxL ret n) (hR : okR rm R maxL 0 0)
    (hK : va_K D classes tys s) (hP : va_P D classes w H) {ci q0 : Nat} {T' : u_T} {NF : Nat} {fs : List Value} (hc : classes[ci]? = some (C, T', NF)) (he : w[q0]? = some (b, .inr (ci, fs))) (hD : va_D Z w) (hS : va_S A0 H0 H locs) (hZ : ∀ q, Z q → A0 q)
    (hn : As.length = n) (hl : ls.size = nL) (hst : st = As.reverse ++ .ref b :: rest) (hrest : (rest.map fun v => v.category).sum ≤ 8) (hdg : decode cc pc = .ok (.invokevirtual index, 3)) (hf : cells + 0 ≤ R.cells ∧ slots + 0 ≤ R.slots)
    (kk : ∀ (r : Int32) (u : T) (H1 : Heap) (locs1 : List Loc), po r u → va_P D classes (wf u) H1 → (∀ q : Nat, q < H.size → ¬ Z q → H1[q]? = H[q]?) → va_S A0 H0 H1 locs1 → W p l e R s m args below meth c H1 locs1 cells slots Q (F0 m (pc + 3) ls (.int r :: rest))) : W p l e R s m args below meth c H locs cells slots Q (F0 m pc ls st) :=
  va_calli (va_runV (As := As) (rest := rest) (b := b) Sx hM (xW Sx.2.2.2.2 o hR) ⟨blindW, va_recv hK hP hc he, fun U hU hW => ⟨rfl, by rw [hU]; exact hP, va_K.moved hW.alike hK, hD⟩⟩ rfl hn hl hst (lv_room hrest) hdg hf) hS (fun q _ h => hZ q h) hZ
    (fun r u t H1 locs1 ht _ hp hB _ hk hS1 => kk r u H1 locs1 hp (by rw [← ht]; exact hB.1) hk hS1)
end LX
/-- what stands fast in the law's loop: the law at its entry, the tables, whose cells are whose -/
def lw_F (p : Program) (s : State) (m : MethodId) (meth : Method) (c : Code) (b L : Nat) (xs : Nat → Int32) (D : va_G) (a : Nat → Nat) (cI cII : ClassId) (g : Nat → Nat) (dI cZ : ClassId) (Z1 Z2 : Nat → Prop) : Prop :=
  lw_At p s m meth c b L xs ∧ L ≤ 2048 ∧ va_K D classes (tC cI cII) s ∧ va_K D classes (tM dI cZ) s ∧ va_D Z1 (wC a cI cII 0 0 (fun _ _ => 0)) ∧ va_D Z2 (wM g dI cZ 0 0 (fun _ _ => 0) (fun _ _ => 0)) ∧ (∀ q : Nat, Z1 q → s.heap.size ≤ q) ∧ (∀ q : Nat, Z2 q → s.heap.size ≤ q) ∧ ∀ q : Nat, Z1 q → Z2 q → False
/-- the way on, behind a call on both sides -/
def lw_K (p : Program) (l : Launch) (e : Env) (s : State) (m : MethodId) (below : List Frame) (meth : Method) (c : Code) (b : Nat) (D : va_G) (a : Nat → Nat) (cI cII : ClassId) (g : Nat → Nat) (dI cZ : ClassId) (ls : Array Slot) : Prop :=
  ∀ (N K : Nat) (A B Q : Nat → Nat → Int32) (H : Heap) (locs : List Loc), Rel N K A B → va_P D classes (wC a cI cII (nI N) (nI K) A) H → va_P D classes (wM g dI cZ (nI N) (nI K) B Q) H → va_S (fun q : Nat => s.heap.size ≤ q) s.heap H locs →
    W p l e room_1 s m #[Value.ref b] below meth c H locs 27 2391 (lw_Z below #[Value.ref b] s) (F0 m 741 ls [])
section LY
variable {p : Program} {l : Launch} {e : Env} {s : State} {m : MethodId} {below : List Frame} {meth : Method} {c : Code} {H : Heap} {locs : List Loc} {X : State → Prop}
variable {bytes : ByteArray} {pc maxL index n i b L : Nat} {ls : Array Slot} {rest As st : List Value} {y : MethodName} {ret : Option FieldType} {rm : Room} {D : va_G} {xs : Nat → Int32} {a g : Nat → Nat} {cI cII dI cZ : ClassId} {Z1 Z2 : Nat → Prop} {post : Int32 → Prop}
variable {N K N2 K2 : Nat} {A B Q : Nat → Nat → Int32}
theorem lC {T : Type} {wf : T → va_W} {po : Int32 → T → Prop} (F : lw_F p s m meth c b L xs D a cI cII g dI cZ Z1 Z2) (hM : Met l y (Cond.code y bytes maxL ret :: BW) rm (PcW D Z1 (wC a cI cII (nI N) (nI K) A) (tC cI cII) (.ref (a 0) :: As)) (va_Qi po (atW D wf (tC cI cII)) Z1) 0 0 Z1) (o : okV R_law R_C index y bytes maxL ret n) (hR : okR rm room_1 maxL 0 0)
    (h1 : va_P D classes (wC a cI cII (nI N) (nI K) A) H) (h2 : va_P D classes (wM g dI cZ (nI N2) (nI K2) B Q) H) (hS : va_S (fun q : Nat => s.heap.size ≤ q) s.heap H locs) (hn : As.length = n) (hl : ls.size = 4) (hst : st = As.reverse ++ .ref (a 0) :: rest) (hrest : (rest.map fun v => v.category).sum ≤ 8) (hdg : decode code pc = .ok (.invokevirtual index, 3))
    (kk : ∀ (r : Int32) (u : T) (H1 : Heap) (locs1 : List Loc), po r u → va_P D classes (wf u) H1 → va_P D classes (wM g dI cZ (nI N2) (nI K2) B Q) H1 → va_S (fun q : Nat => s.heap.size ≤ q) s.heap H1 locs1 → W p l e room_1 s m #[Value.ref b] below meth c H1 locs1 27 2391 X (F0 m (pc + 3) ls (.int r :: rest))) : W p l e room_1 s m #[Value.ref b] below meth c H locs 27 2391 X (F0 m pc ls st) := by
  obtain ⟨⟨hx, hb, hr, hml, hown, hts, hX, hbl, hlocks, hgv⟩, hL, k1, k2, d1, d2, z1, z2, zz⟩ := F
  refine xwiK (C := R_C) (ci := 0) (q0 := 0) ⟨hx, hb, hml, hown, fun w h => hts w (BW_sub w h)⟩ hM o hR k1 h1 rfl rfl (wC_D d1) hS z1 hn hl hst hrest hdg ⟨Nat.le_of_ble_eq_true rfl, Nat.le_of_ble_eq_true rfl⟩ (fun r u H1 locs1 hp hP hk hS1 => ?_)
  exact kk r u H1 locs1 hp hP (h2.kept (fun k q hq => hk q.1 (h2 k q hq).lt (fun z => zz q.1 z ((wM_D d2).2 k q hq)))) hS1
theorem lM {T : Type} {wf : T → va_W} {po : Int32 → T → Prop} (F : lw_F p s m meth c b L xs D a cI cII g dI cZ Z1 Z2) (hM : Met l y (Cond.code y bytes maxL ret :: BW) rm (PcW D Z2 (wM g dI cZ (nI N) (nI K) B Q) (tM dI cZ) (.ref (g 0) :: As)) (va_Qi po (atW D wf (tM dI cZ)) Z2) 0 0 Z2) (o : okV R_law R_M index y bytes maxL ret n) (hR : okR rm room_1 maxL 0 0)
    (h1 : va_P D classes (wC a cI cII (nI N2) (nI K2) A) H) (h2 : va_P D classes (wM g dI cZ (nI N) (nI K) B Q) H) (hS : va_S (fun q : Nat => s.heap.size ≤ q) s.heap H locs) (hn : As.length = n) (hl : ls.size = 4) (hst : st = As.reverse ++ .ref (g 0) :: rest) (hrest : (rest.map fun v => v.category).sum ≤ 8) (hdg : decode code pc = .ok (.invokevirtual index, 3))
    (kk : ∀ (r : Int32) (u : T) (H1 : Heap) (locs1 : List Loc), po r u → va_P D classes (wC a cI cII (nI N2) (nI K2) A) H1 → va_P D classes (wf u) H1 → va_S (fun q : Nat => s.heap.size ≤ q) s.heap H1 locs1 → W p l e room_1 s m #[Value.ref b] below meth c H1 locs1 27 2391 X (F0 m (pc + 3) ls (.int r :: rest))) : W p l e room_1 s m #[Value.ref b] below meth c H locs 27 2391 X (F0 m pc ls st) := by
  obtain ⟨⟨hx, hb, hr, hml, hown, hts, hX, hbl, hlocks, hgv⟩, hL, k1, k2, d1, d2, z1, z2, zz⟩ := F
  refine xwiK (C := R_M) (ci := 1) (q0 := 0) ⟨hx, hb, hml, hown, fun w h => hts w (BW_sub w h)⟩ hM o hR k2 h2 rfl rfl (wM_D d2) hS z2 hn hl hst hrest hdg ⟨Nat.le_of_ble_eq_true rfl, Nat.le_of_ble_eq_true rfl⟩ (fun r u H1 locs1 hp hP hk hS1 => ?_)
  exact kk r u H1 locs1 hp (h1.kept (fun k q hq => hk q.1 (h1 k q hq).lt (fun z => zz q.1 ((wC_D d1).2 k q hq) z))) hP hS1
theorem lCr (F : lw_F p s m meth c b L xs D a cI cII g dI cZ Z1 Z2) (hM : Met l y (Cond.code y bytes maxL ret :: BW) rm (PcR D (wC a cI cII (nI N) (nI K) A) (tC cI cII) (.ref (a 0) :: As)) (vp_Si post) 0 0 (fun _ => False)) (o : okV R_law R_C index y bytes maxL ret n) (hR : okR rm room_1 maxL 0 0)
    (h1 : va_P D classes (wC a cI cII (nI N) (nI K) A) H) (hn : As.length = n) (hl : ls.size = 4) (hst : st = As.reverse ++ .ref (a 0) :: rest) (hrest : (rest.map fun v => v.category).sum ≤ 8) (hdg : decode code pc = .ok (.invokevirtual index, 3))
    (kk : ∀ r : Int32, post r → W p l e room_1 s m #[Value.ref b] below meth c H locs 27 2391 X (F0 m (pc + 3) ls (.int r :: rest))) : W p l e room_1 s m #[Value.ref b] below meth c H locs 27 2391 X (F0 m pc ls st) := by
  obtain ⟨⟨hx, hb, hr, hml, hown, hts, hX, hbl, hlocks, hgv⟩, hL, k1, k2, d1, d2, z1, z2, zz⟩ := F
  exact xro (C := R_C) (ci := 0) (q0 := 0) ⟨hx, hb, hml, hown, fun w h => hts w (BW_sub w h)⟩ hM o hR k1 h1 rfl rfl hn hl hst hrest hdg ⟨Nat.le_of_ble_eq_true rfl, Nat.le_of_ble_eq_true rfl⟩ kk
theorem lMr (F : lw_F p s m meth c b L xs D a cI cII g dI cZ Z1 Z2) (hM : Met l y (Cond.code y bytes maxL ret :: BW) rm (PcR D (wM g dI cZ (nI N) (nI K) B Q) (tM dI cZ) (.ref (g 0) :: As)) (vp_Si post) 0 0 (fun _ => False)) (o : okV R_law R_M index y bytes maxL ret n) (hR : okR rm room_1 maxL 0 0)
    (h2 : va_P D classes (wM g dI cZ (nI N) (nI K) B Q) H) (hn : As.length = n) (hl : ls.size = 4) (hst : st = As.reverse ++ .ref (g 0) :: rest) (hrest : (rest.map fun v => v.category).sum ≤ 8) (hdg : decode code pc = .ok (.invokevirtual index, 3))
    (kk : ∀ r : Int32, post r → W p l e room_1 s m #[Value.ref b] below meth c H locs 27 2391 X (F0 m (pc + 3) ls (.int r :: rest))) : W p l e room_1 s m #[Value.ref b] below meth c H locs 27 2391 X (F0 m pc ls st) := by
  obtain ⟨⟨hx, hb, hr, hml, hown, hts, hX, hbl, hlocks, hgv⟩, hL, k1, k2, d1, d2, z1, z2, zz⟩ := F
  exact xro (C := R_M) (ci := 1) (q0 := 0) ⟨hx, hb, hml, hown, fun w h => hts w (BW_sub w h)⟩ hM o hR k2 h2 rfl rfl hn hl hst hrest hdg ⟨Nat.le_of_ble_eq_true rfl, Nat.le_of_ble_eq_true rfl⟩ kk
/-- an argument: script[i + k] -/
theorem ldA {k : Nat} {kv : Int} (hx : p.tables.exec = Jvm.exec) (hb : c.code = code) (hX : va_X b L xs s s.heap) (hbl : b < s.heap.size) (hL : L ≤ 2048) (hS : va_S (fun q : Nat => s.heap.size ≤ q) s.heap H locs) (hl : lv_has ls 4 [(0, .ref b), (1, .ref (a 0)), (2, .ref (g 0)), (3, .int (nI i))]) (hk : i + k < L) (hv : Int32.ofInt kv = nI k)
    (e0 : decode code pc = .ok (.aload_n 0, 1)) (e1 : decode code (pc + 1) = .ok (.iload_n 3, 1)) (e2 : decode code (pc + 2) = .ok (.iconst kv, 1)) (e3 : decode code (pc + 3) = .ok (.iadd, 1)) (e4 : decode code (pc + 4) = .ok (.iaload, 1))
    (kk : W p l e room_1 s m #[Value.ref b] below meth c H locs 27 2391 X (F0 m (pc + 5) ls (.int (xs (i + k)) :: rest))) : W p l e room_1 s m #[Value.ref b] below meth c H locs 27 2391 X (F0 m pc ls rest) := by
  refine lv_aload_n hx hb e0 rfl (lv_at hl 0 rfl) ?_
  refine lv_iload_n hx hb e1 rfl (lv_at hl 3 rfl) ?_
  refine lv_iconst (v := nI k) hx hb e2 hv ?_
  refine lv_iadd hx hb e3 ?_
  rw [nI_add]
  refine va_sld hx hb hX hbl (show ¬ (fun q : Nat => s.heap.size ≤ q) b from Nat.not_le.mpr hbl) hS (nI_in hk (by omega)) e4 ?_
  rw [nI_clamp (by omega)]
  exact kk
theorem lw_head {L i : Nat} (hL : L ≤ 2048) (hi : i ≤ 2048) : Int32.ofNat L - nI 4 < nI i ↔ L < i + 4 := by
  rw [show Int32.ofNat L = nI L from rfl, Int32.lt_iff_toInt_lt, pk_sub_toInt (by omega) (by omega), nI_toInt (by omega)]
  omega
theorem lw_left {cl : List vw_C} {w w' : va_W} (h : va_P D cl (w ++ w') H) : va_P D cl w H := by
  intro k q hq
  have hk : k < w.length := (List.getElem?_eq_some_iff.mp hq).1
  exact h k q (by rw [List.getElem?_append_left hk]; exact hq)
theorem lw_apart {cl : List vw_C} {w : va_W} {Z : Nat → Prop} {q1 : Nat} {x : va_E} (hP : va_P D cl (w ++ [(q1, x)]) H) (hD : va_D Z (w ++ [(q1, x)])) : ∀ (k : Nat) (q : Nat × va_E), w[k]? = some q → q.1 < H.size ∧ ¬ va_A [(q1, x)] H.size q.1 := by
  intro k q hq
  have hk : k < w.length := (List.getElem?_eq_some_iff.mp hq).1
  have hq2 : (w ++ [(q1, x)])[k]? = some q := by rw [List.getElem?_append_left hk]; exact hq
  have h3 : (w ++ [(q1, x)])[w.length]? = some (q1, x) := by rw [List.getElem?_append_right (Nat.le_refl _), Nat.sub_self]; rfl
  have hlt : q.1 < H.size := (hP k q hq2).lt
  refine ⟨hlt, fun h => ?_⟩
  rcases h with ⟨k2, e2, h⟩ | h
  · have hz : k2 < 1 := (List.getElem?_eq_some_iff.mp h).1
    rw [show k2 = 0 by omega] at h
    have h4 : (q1, x) = (q.1, e2) := Option.some.inj h
    have h5 : q.1 = q1 := (congrArg Prod.fst h4).symm
    have h6 := hD.1 k w.length q (q1, x) hq2 h3 h5
    omega
  · omega
end LY
