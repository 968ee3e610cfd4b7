/-! The class's world: the object, its rows of numbers (A 0 sorts, A 1 holders, A 2 to A 5 marks of things, A 6 doorFrom, A 7 doorTo, A 8, A 9 marks of doors, A 10 levels). -/
abbrev tC (cI cII : ClassId) : List (ClassId × FieldType) := [(cI, .int), (cII, .array .int)]
def gO (a : Nat → Nat) (b k : Nat) : Nat → Option Nat := fun i => if i < k then some (a (b + i)) else none
def wC (a : Nat → Nat) (cI cII : ClassId) (n d : Int32) (A : Nat → Nat → Int32) : va_W :=
  [(a 0, .inr (0, [.int n, .ref (a 1), .ref (a 2), .ref (a 3), .int d, .ref (a 8), .ref (a 9), .ref (a 10), .ref (a 13)])),
   (a 1, .inl (cI, 30, .inl (A 0))), (a 2, .inl (cI, 30, .inl (A 1))),
   (a 3, .inl (cII, 4, .inr (.inr (.inr (.inr (gO a 4 4)))))), (a 4, .inl (cI, 30, .inl (A 2))), (a 5, .inl (cI, 30, .inl (A 3))), (a 6, .inl (cI, 30, .inl (A 4))), (a 7, .inl (cI, 30, .inl (A 5))),
   (a 8, .inl (cI, 10, .inl (A 6))), (a 9, .inl (cI, 10, .inl (A 7))),
   (a 10, .inl (cII, 2, .inr (.inr (.inr (.inr (gO a 11 2)))))), (a 11, .inl (cI, 10, .inl (A 8))), (a 12, .inl (cI, 10, .inl (A 9))),
   (a 13, .inl (cI, 30, .inl (A 10)))]
theorem wC_D {Z : Nat → Prop} {a : Nat → Nat} {cI cII cI' cII' : ClassId} {n d n' d' : Int32} {A A' : Nat → Nat → Int32} (h : va_D Z (wC a cI cII n d A)) : va_D Z (wC a cI' cII' n' d' A') := by
  have key : ∀ (k : Nat) (q : Nat × va_E), (wC a cI' cII' n' d' A')[k]? = some q → ∃ e, (wC a cI cII n d A)[k]? = some (q.1, e) := by
    intro k q hq
    match k, hq with
    | 0, hq => cases hq; exact ⟨_, rfl⟩
    | 1, hq => cases hq; exact ⟨_, rfl⟩
    | 2, hq => cases hq; exact ⟨_, rfl⟩
    | 3, hq => cases hq; exact ⟨_, rfl⟩
    | 4, hq => cases hq; exact ⟨_, rfl⟩
    | 5, hq => cases hq; exact ⟨_, rfl⟩
    | 6, hq => cases hq; exact ⟨_, rfl⟩
    | 7, hq => cases hq; exact ⟨_, rfl⟩
    | 8, hq => cases hq; exact ⟨_, rfl⟩
    | 9, hq => cases hq; exact ⟨_, rfl⟩
    | 10, hq => cases hq; exact ⟨_, rfl⟩
    | 11, hq => cases hq; exact ⟨_, rfl⟩
    | 12, hq => cases hq; exact ⟨_, rfl⟩
    | 13, hq => cases hq; exact ⟨_, rfl⟩
    | k + 14, hq => simp [wC] at hq
  refine ⟨fun i j p q hp hq e => ?_, fun k q hq => ?_⟩
  · obtain ⟨e1, h1⟩ := key i p hp
    obtain ⟨e2, h2⟩ := key j q hq
    exact h.1 i j _ _ h1 h2 e
  · obtain ⟨e1, h1⟩ := key k q hq
    exact h.2 k (q.1, e1) h1
theorem wC_row4 {a : Nat → Nat} {cI cII : ClassId} {n d : Int32} {A : Nat → Nat → Int32} {j : Nat} (h : j < 4) : (wC a cI cII n d A)[4 + j]? = some (a (4 + j), .inl (cI, 30, .inl (A (2 + j)))) := by
  rcases (show j = 0 ∨ j = 1 ∨ j = 2 ∨ j = 3 by omega) with rfl | rfl | rfl | rfl <;> rfl
theorem wC_row2 {a : Nat → Nat} {cI cII : ClassId} {n d : Int32} {A : Nat → Nat → Int32} {j : Nat} (h : j < 2) : (wC a cI cII n d A)[11 + j]? = some (a (11 + j), .inl (cI, 10, .inl (A (8 + j)))) := by
  rcases (show j = 0 ∨ j = 1 by omega) with rfl | rfl <;> rfl
theorem wC_set4 {a : Nat → Nat} {cI cII : ClassId} {n d : Int32} {A : Nat → Nat → Int32} {j i : Nat} {x : Int32} (h : j < 4) : (wC a cI cII n d A).set (4 + j) (a (4 + j), .inl (cI, 30, .inl (upd (A (2 + j)) i x))) = wC a cI cII n d (sU A (2 + j) i x) := by
  rcases (show j = 0 ∨ j = 1 ∨ j = 2 ∨ j = 3 by omega) with rfl | rfl | rfl | rfl <;> rfl
theorem wC_set2 {a : Nat → Nat} {cI cII : ClassId} {n d : Int32} {A : Nat → Nat → Int32} {j i : Nat} {x : Int32} (h : j < 2) : (wC a cI cII n d A).set (11 + j) (a (11 + j), .inl (cI, 10, .inl (upd (A (8 + j)) i x))) = wC a cI cII n d (sU A (8 + j) i x) := by
  rcases (show j = 0 ∨ j = 1 by omega) with rfl | rfl <;> rfl
section WCL
variable {p : Program} {l : Launch} {e : Env} {R : Room} {s : State} {m : MethodId} {args : Array Value} {below : List Frame} {meth : Method} {c : Code} {H : Heap} {locs : List Loc} {cells slots : Nat} {Q : State → Prop}
variable {cc : ByteArray} {pc : Nat} {ls : Array Slot} {rest : List Value} {D : va_G} {a : Nat → Nat} {cI cII : ClassId} {n d : Int32} {A : Nat → Nat → Int32}
theorem x_aldA {cl : List vw_C} {tys : List (ClassId × FieldType)} {ws : va_W} {b : Nat} (hx : p.tables.exec = Jvm.exec) (hb : c.code = cc) (hK : va_K D cl tys s) (hP : va_P D cl ws H) (q0 t0 : Nat) {cA : ClassId} {t : FieldType} {k : Nat} {f : Nat → Option Nat} (ha : ws[q0]? = some (b, .inl (cA, k, .inr (.inr (.inr (.inr f)))))) (ht : tys[t0]? = some (cA, .array t)) {i : Int32} (hin : vp_in i k) (hdg : decode cc pc = .ok (.aaload, 1))
    (kk : W p l e R s m args below meth c H locs cells slots Q (F0 m (pc + 1) ls (va_rf (f i.toNatClampNeg) :: rest))) : W p l e R s m args below meth c H locs cells slots Q (F0 m pc ls (.int i :: .ref b :: rest)) :=
  W.aald (v := va_rf (f i.toNatClampNeg)) (ty := .array t) hx hb (hP q0 _ ha) ((hK.2 t0 _ ht).1 k (fun j => va_rf (f j))) rfl (fun q => by cases q) (by show ¬ (i < 0 ∨ (arrV _ _ _).slots.size ≤ _); rw [arrV_size]; exact hin) (by show (arrV _ _ _).slots[_]? = _; rw [arrV_read _ _ (vp_lt hin)]) rfl rfl hdg kk
theorem x_ald4 (hx : p.tables.exec = Jvm.exec) (hb : c.code = cc) (hK : va_K D classes (tC cI cII) s) (hP : va_P D classes (wC a cI cII n d A) H) {i : Int32} (hin : vp_in i 4) (hdg : decode cc pc = .ok (.aaload, 1))
    (kk : W p l e R s m args below meth c H locs cells slots Q (F0 m (pc + 1) ls (.ref (a (4 + i.toNatClampNeg)) :: rest))) : W p l e R s m args below meth c H locs cells slots Q (F0 m pc ls (.int i :: .ref (a 3) :: rest)) := by
  refine x_aldA hx hb hK hP 3 1 rfl rfl hin hdg ?_
  have h : va_rf (gO a 4 4 i.toNatClampNeg) = .ref (a (4 + i.toNatClampNeg)) := by rw [gO, if_pos (vp_lt hin)]; rfl
  rw [h]; exact kk
theorem x_ald2 (hx : p.tables.exec = Jvm.exec) (hb : c.code = cc) (hK : va_K D classes (tC cI cII) s) (hP : va_P D classes (wC a cI cII n d A) H) {i : Int32} (hin : vp_in i 2) (hdg : decode cc pc = .ok (.aaload, 1))
    (kk : W p l e R s m args below meth c H locs cells slots Q (F0 m (pc + 1) ls (.ref (a (11 + i.toNatClampNeg)) :: rest))) : W p l e R s m args below meth c H locs cells slots Q (F0 m pc ls (.int i :: .ref (a 10) :: rest)) := by
  refine x_aldA hx hb hK hP 10 1 rfl rfl hin hdg ?_
  have h : va_rf (gO a 11 2 i.toNatClampNeg) = .ref (a (11 + i.toNatClampNeg)) := by rw [gO, if_pos (vp_lt hin)]; rfl
  rw [h]; exact kk
end WCL
/-! Arrays.fill of ints, and its call on the levels. -/
theorem va_P_set2 {D : va_G} {cl : List vw_C} {Z : Nat → Prop} {p : Nat} {ws : va_W} {a : Nat} {e0 e : va_E} {H H1 : Heap} (h : va_P D cl ws H) (hD : va_D Z ws) (hp : ws[p]? = some (a, e0)) (he : va_at D cl (a, e) H1) (oq : ∀ q : Nat, q < H.size → q ≠ a → H1[q]? = H[q]?) : va_P D cl (ws.set p (a, e)) H1 := by
  intro k q hk
  by_cases hkp : k = p
  · subst hkp
    rw [List.getElem?_set_self (List.getElem?_eq_some_iff.mp hp).1] at hk
    cases hk
    exact he
  · rw [List.getElem?_set_ne (Ne.symm hkp)] at hk
    have h1 := h k q hk
    exact h1.kept (oq q.1 h1.lt (fun e => hkp (hD.1 k p q _ hk hp e)))
def fl_g (v : Int32) (f : Nat → Int32) (i : Nat) : Nat → Int32 := fun j => if j < i then v else f j
theorem fl_g_S (v : Int32) (f : Nat → Int32) (i : Nat) : upd (fl_g v f i) i v = fl_g v f (i + 1) := by
  funext j
  by_cases h : j = i
  · subst h
    rw [pk_us, fl_g, if_pos (by omega)]
  · rw [pk_un h, fl_g, fl_g]
    by_cases h2 : j < i
    · rw [if_pos h2, if_pos (by omega)]
    · rw [if_neg h2, if_neg (by omega)]
theorem fl_g_0 (v : Int32) (f : Nat → Int32) : fl_g v f 0 = f := by
  funext j
  rw [fl_g, if_neg (by omega)]
set_option maxHeartbeats 4000000 in
set_option maxRecDepth 100000 in
theorem w_fill_5 (l : Launch) (D : va_G) (Z : Nat → Prop) (b n : Nat) (hn : n < 2 ^ 31) (cI : ClassId) (f : Nat → Int32) (v : Int32) {p : Program} {e : Env} {s : State} {m : MethodId} {below : List Frame} {meth : Method} {c : Code} (Sx : CallFix p m c b_A_fill 4 s ([.ref b, .int v] : List Value).toArray BW R_A) (hr : meth.sig.returnType = none) (hlk : meth.locks = false) (hD : va_D Z [(b, .inl (cI, n, .inl f))]) (hK : va_K D classes [(cI, .int)] s) : ∀ (k i : Nat), i + k = n → ∀ (H : Heap) (locs : List Loc) (ls : Array Slot), va_P D classes [(b, .inl (cI, n, .inl (fl_g v f i)))] H → va_S Z s.heap H locs → lv_has ls 4 [(0, .ref b), (1, .int v), (2, .int (nI i)), (3, .int (nI n))] → W p l e ({ frames := 0, cells := 0, slots := 0, locals := 0 } : Room) s m ([.ref b, .int v] : List Value).toArray below meth c H locs 0 0 (MQ below (va_Qv (fun u => u = fl_g v f n) (atW D (fun u => [(b, .inl (cI, n, .inl u))]) [(cI, .int)]) Z) ([.ref b, .int v] : List Value).toArray s 0 0 Z) (F0 m 5 ls []) := by
  obtain ⟨hx, hb, hml, hown, hts⟩ := id Sx
  intro k
  induction k with
  | zero =>
    intro i hi H locs ls hP hS hl
    obtain rfl : i = n := by omega
    refine lv_iload_n hx hb d_A_fill_5 rfl (lv_at hl 2 rfl) ?_
    refine lv_iload_n hx hb d_A_fill_6 rfl (lv_at hl 3 rfl) ?_
    refine lv_icmp_ge (tgt := 20) hx hb d_A_fill_7 (by decide) (fun c_7 => ?_) (fun c_7 => absurd (nI_le (Nat.le_refl _) hn) c_7)
    exact wRetV (u := fl_g v f i) hx hb hr hlk rfl hP hK hS d_A_fill_20
  | succ k ih =>
    intro i hi H locs ls hP hS hl
    refine lv_iload_n hx hb d_A_fill_5 rfl (lv_at hl 2 rfl) ?_
    refine lv_iload_n hx hb d_A_fill_6 rfl (lv_at hl 3 rfl) ?_
    refine lv_icmp_ge (tgt := 20) hx hb d_A_fill_7 (by decide) (fun c_7 => absurd c_7 (nI_ge (a := i) (b := n) (by omega) hn)) (fun c_7 => ?_)
    refine lv_aload_n hx hb d_A_fill_10 rfl (lv_at hl 0 rfl) ?_
    refine lv_iload_n hx hb d_A_fill_11 rfl (lv_at hl 2 rfl) ?_
    refine lv_iload_n hx hb d_A_fill_12 rfl (lv_at hl 1 rfl) ?_
    have hD1 : va_D Z [(b, .inl (cI, n, .inl (fl_g v f i)))] := hD.set (p := 0) (e := .inl (cI, n, .inl (fl_g v f i))) rfl
    refine va_iast (n := n) hx hb hK hP hD1 hS 0 0 rfl rfl (vp_in_nI (by omega) hn) d_A_fill_13 (fun H locs hP _ hS => ?_)
    rw [nI_clamp (by omega), fl_g_S] at hP
    have hP : va_P D classes [(b, .inl (cI, n, .inl (fl_g v f (i + 1))))] H := hP
    refine lv_iinc (v := nI (i + 1)) (lv' := [(2, .int (nI (i + 1))), (0, .ref b), (1, .int v), (3, .int (nI n))]) hx hb d_A_fill_14 hl (k := 2) rfl (nI_1 i) (by decide) rfl (fun ls hl => ?_)
    refine lv_goto (tgt := 5) hx hb d_A_fill_17 (by decide) ?_
    exact ih (i + 1) (by omega) H locs ls hP hS (lv_sub hl [1, 2, 0, 3] rfl)
set_option maxHeartbeats 4000000 in
set_option maxRecDepth 100000 in
theorem c_fill (l : Launch) (D : va_G) (Z : Nat → Prop) (b n : Nat) (hn : n < 2 ^ 31) (cI : ClassId) (f : Nat → Int32) (v : Int32) : Met l y_A_fill (Cond.code y_A_fill b_A_fill 4 none :: BW) ({ frames := 0, cells := 0, slots := 0, locals := 0 } : Room) (PcW D Z [(b, .inl (cI, n, .inl f))] [(cI, .int)] [.ref b, .int v]) (va_Qv (fun u => u = fl_g v f n) (atW D (fun u => [(b, .inl (cI, n, .inl u))]) [(cI, .int)]) Z) 0 0 Z := by
  refine wStartV (by decide) rfl (Nat.le_of_ble_eq_true rfl) (fun p e s m below meth c Sx hr hlk hP hK hD hS ls hl => ?_)
  obtain ⟨hx, hb, hml, hown, hts⟩ := id Sx
  have hl : lv_has ls 4 [(0, .ref b), (1, .int v)] := hl
  refine lv_iconst (v := (0 : Int32)) hx hb d_A_fill_0 (by decide) ?_
  refine lv_istore_n (lv' := [(2, .int (0 : Int32)), (0, .ref b), (1, .int v)]) hx hb d_A_fill_1 rfl hl (by decide) rfl (fun ls hl => ?_)
  refine lv_aload_n hx hb d_A_fill_2 rfl (lv_at hl 1 rfl) ?_
  refine va_alen (v := nI n) hx hb hK hP 0 0 rfl rfl rfl d_A_fill_3 ?_
  refine lv_istore_n (lv' := [(3, .int (nI n)), (2, .int (0 : Int32)), (0, .ref b), (1, .int v)]) hx hb d_A_fill_4 rfl hl (by decide) rfl (fun ls hl => ?_)
  exact w_fill_5 l D Z b n hn cI f v Sx hr hlk hD hK n 0 (by omega) _ _ ls (by rw [fl_g_0]; exact hP) hS (lv_sub hl [2, 3, 1, 0] rfl)
def fU (A : Nat → Nat → Int32) : Nat → Nat → Int32 := va_up A 10 (fl_g 0 (A 10) 30)
section XF
variable {p : Program} {l : Launch} {e : Env} {R : Room} {s : State} {m : MethodId} {args : Array Value} {below : List Frame} {meth : Method} {c : Code} {H H0 : Heap} {locs : List Loc} {cells slots : Nat} {Q : State → Prop}
variable {cc : ByteArray} {pc nL index : Nat} {ls : Array Slot} {rest : List Value} {D : va_G} {a : Nat → Nat} {cI cII : ClassId} {n d : Int32} {A : Nat → Nat → Int32} {Z : Nat → Prop}
theorem x_fill13 (Sx : CallFix p m c cc nL s args BW R_C) (o : okS R_C index y_A_fill b_A_fill 4 none 2) (hR : okR ({ frames := 0, cells := 0, slots := 0, locals := 0 } : Room) R 4 0 0) (hK : va_K D classes (tC cI cII) s) (hP : va_P D classes (wC a cI cII n d A) H) (hD : va_D Z (wC a cI cII n d A)) (hS : va_S Z H0 H locs) (hl : ls.size = nL) (hrest : (rest.map fun v => v.category).sum ≤ 8) (hdg : decode cc pc = .ok (.invokestatic index, 3)) (hf : cells + 0 ≤ R.cells ∧ slots + 0 ≤ R.slots)
    (kk : ∀ (H : Heap) (locs : List Loc), va_P D classes (wC a cI cII n d (fU A)) H → va_S Z H0 H locs → W p l e R s m args below meth c H locs cells slots Q (F0 m (pc + 3) ls rest)) : W p l e R s m args below meth c H locs cells slots Q (F0 m pc ls (.int 0 :: .ref (a 13) :: rest)) := by
  have hP13 := hP.sub (ws' := [(a 13, .inl (cI, 30, .inl (A 10)))]) [13] rfl
  have hK13 := hK.sub (tys' := [(cI, .int)]) [0] rfl
  have hD13 : va_D (fun q => q = a 13) [(a 13, (.inl (cI, 30, .inl (A 10)) : va_E))] := by
    have h := hD.sub (ws' := [(a 13, .inl (cI, 30, .inl (A 10)))]) [13] (by decide) rfl
    refine ⟨h.1, fun k q hk => ?_⟩
    match k, hk with
    | 0, hk => cases hk; rfl
    | k + 1, hk => simp at hk
  have hZ : ∀ q, q = a 13 → Z q := fun q h => by rw [h]; exact hD.2 13 _ rfl
  refine va_callv (va_runS (As := [.ref (a 13), .int 0]) (rest := rest) Sx (c_fill l D (fun q => q = a 13) (a 13) 30 (by decide) cI (A 10) 0) ⟨xB Sx.2.2.2.2 o.1 hR, Sx.2.2.2.2 _ o.2⟩ ⟨blindW, fun U hU hW => ⟨rfl, by rw [hU]; exact hP13, va_K.moved hW.alike hK13, hD13⟩⟩ rfl rfl hl rfl (lv_room hrest) hdg hf) hS (fun q _ h => hZ q h) hZ (fun u t H1 locs1 ht hvm hp hB hz hk hS1 => ?_)
  subst hp
  have h1 : va_at D classes (a 13, .inl (cI, 30, .inl (fl_g 0 (A 10) 30))) H1 := by
    have := hB.1 0 _ rfl
    rw [ht] at this
    exact this
  exact kk H1 locs1 (va_P_set2 (p := 13) hP hD rfl h1 (fun q hq hne => hk q hq hne)) hS1
end XF
