set_option maxHeartbeats 4000000 in
set_option maxRecDepth 100000 in
/-- THE LAW'S LOOP: at its head, with i ints read, both sides agree -/
theorem law_loop {p : Program} {l : Launch} {e : Env} {s : State} {m : MethodId} {below : List Frame} {meth : Method} {c : Code} {b L : Nat} {xs : Nat → Int32} {D : va_G} {a g : Nat → Nat} {cI cII dI cZ : ClassId} {Z1 Z2 : Nat → Prop} (F : lw_F p s m meth c b L xs D a cI cII g dI cZ Z1 Z2) :
    ∀ (n i : Nat), i ≤ L → L + 1 ≤ i + n → ∀ (N K : Nat) (A B Q : Nat → Nat → Int32) (H : Heap) (locs : List Loc) (ls : Array Slot), Rel N K A B → va_P D classes (wC a cI cII (nI N) (nI K) A) H → va_P D classes (wM g dI cZ (nI N) (nI K) B Q) H → va_S (fun q : Nat => s.heap.size ≤ q) s.heap H locs → lv_has ls 4 [(0, .ref b), (1, .ref (a 0)), (2, .ref (g 0)), (3, .int (nI i))] →
      W p l e room_1 s m #[Value.ref b] below meth c H locs 27 2391 (lw_Z below #[Value.ref b] s) (F0 m 18 ls []) := by
  obtain ⟨⟨hx, hb, hr, hml, hown, hts, hX, hbl, hlocks, hgv⟩, hL, -⟩ := id F
  have hbA : ¬ (fun q : Nat => s.heap.size ≤ q) b := Nat.not_le.mpr hbl
  intro n
  induction n with
  | zero =>
    intro i h1 h2
    exact absurd h2 (by omega)
  | succ n ih =>
    intro i hi hin N K A B Q H locs ls R h1 h2 hS hl
    refine lv_iload_n hx hb d_L_law_18 rfl (lv_at hl 3 rfl) ?_
    refine lv_aload_n hx hb d_L_law_19 rfl (lv_at hl 0 rfl) ?_
    refine va_slen hx hb hX hbl hbA hS d_L_law_20 ?_
    refine lv_iconst (v := nI 4) hx hb d_L_law_21 (by decide +kernel) ?_
    refine lv_isub hx hb d_L_law_22 ?_
    refine lv_icmp_gt (tgt := 747) hx hb d_L_law_23 (by decide) (fun c_23 => ?_) (fun c_23 => ?_)
    · refine lv_iconst (v := 1) hx hb d_L_law_747 (by decide) ?_
      refine va_forget (fun q hq => hS.2.2 q hq) ?_
      refine W.widen (k := 600000) (n := 7302250) (by omega) (by omega) ?_
      exact lw_ret hx hb hr hlocks d_L_law_748
    · have hlt : i + 4 ≤ L := Nat.not_lt.mp (fun q => c_23 ((lw_head hL (by omega)).mpr q))
      have back : lw_K p l e s m below meth c b D a cI cII g dI cZ ls := by
        intro N K A B Q H locs R h1 h2 hS
        refine lv_iinc (v := nI (i + 4)) (lv' := [(3, .int (nI (i + 4))), (0, .ref b), (1, .ref (a 0)), (2, .ref (g 0))]) hx hb d_L_law_741 hl (k := 3) rfl (by rw [show Int32.ofInt 4 = nI 4 from by decide +kernel]; exact nI_add i 4) (by decide) rfl (fun ls hl => ?_)
        refine lv_goto (tgt := 18) hx hb d_L_law_744 (by decide) ?_
        exact ih (i + 4) hlt (by omega) N K A B Q H locs ls R h1 h2 hS (lv_sub hl [1, 2, 3, 0] rfl)
      refine lv_aload_n hx hb d_L_law_26 rfl (lv_at hl 0 rfl) ?_
      refine lv_iload_n hx hb d_L_law_27 rfl (lv_at hl 3 rfl) ?_
      refine va_sld hx hb hX hbl hbA hS (nI_in (c := i) (N := L) (by omega) (by omega)) d_L_law_28 ?_
      refine lv_bipush (v := (31 : Int32)) hx hb d_L_law_29 (by decide) ?_
      refine lv_iand hx hb d_L_law_31 ?_
      generalize (xs (nI i).toNatClampNeg &&& (31 : Int32)) = v
      by_cases c_0 : v = 0
      · refine lv_tableIn (off := (92 : Int)) (tgt := 124) hx hb d_L_law_32 (by rw [c_0]; decide) (by rw [c_0]; decide) (by rw [c_0]; rfl) (by decide) ?_
        exact lw_c_thing F R h1 h2 hS hl hlt back
      by_cases c_1 : v = 1
      · refine lv_tableIn (off := (115 : Int)) (tgt := 147) hx hb d_L_law_32 (by rw [c_1]; decide) (by rw [c_1]; decide) (by rw [c_1]; rfl) (by decide) ?_
        exact lw_c_clear F R h1 h2 hS hl hlt back
      by_cases c_2 : v = 2
      · refine lv_tableIn (off := (128 : Int)) (tgt := 160) hx hb d_L_law_32 (by rw [c_2]; decide) (by rw [c_2]; decide) (by rw [c_2]; rfl) (by decide) ?_
        exact lw_c_put F R h1 h2 hS hl hlt back
      by_cases c_3 : v = 3
      · refine lv_tableIn (off := (161 : Int)) (tgt := 193) hx hb d_L_law_32 (by rw [c_3]; decide) (by rw [c_3]; decide) (by rw [c_3]; rfl) (by decide) ?_
        exact lw_c_set F R h1 h2 hS hl hlt back
      by_cases c_4 : v = 4
      · refine lv_tableIn (off := (204 : Int)) (tgt := 236) hx hb d_L_law_32 (by rw [c_4]; decide) (by rw [c_4]; decide) (by rw [c_4]; rfl) (by decide) ?_
        exact lw_c_door F R h1 h2 hS hl hlt back
      by_cases c_5 : v = 5
      · refine lv_tableIn (off := (237 : Int)) (tgt := 269) hx hb d_L_law_32 (by rw [c_5]; decide) (by rw [c_5]; decide) (by rw [c_5]; rfl) (by decide) ?_
        exact lw_c_turn F R h1 h2 hS hl hlt back
      by_cases c_6 : v = 6
      · refine lv_tableIn (off := (280 : Int)) (tgt := 312) hx hb d_L_law_32 (by rw [c_6]; decide) (by rw [c_6]; decide) (by rw [c_6]; rfl) (by decide) ?_
        exact lw_c_take F R h1 h2 hS hl hlt back
      by_cases c_7 : v = 7
      · refine lv_tableIn (off := (313 : Int)) (tgt := 345) hx hb d_L_law_32 (by rw [c_7]; decide) (by rw [c_7]; decide) (by rw [c_7]; rfl) (by decide) ?_
        exact lw_c_give F R h1 h2 hS hl hlt back
      by_cases c_8 : v = 8
      · refine lv_tableIn (off := (356 : Int)) (tgt := 388) hx hb d_L_law_32 (by rw [c_8]; decide) (by rw [c_8]; decide) (by rw [c_8]; rfl) (by decide) ?_
        exact lw_c_drop F R h1 h2 hS hl hlt back
      by_cases c_9 : v = 9
      · refine lv_tableIn (off := (389 : Int)) (tgt := 421) hx hb d_L_law_32 (by rw [c_9]; decide) (by rw [c_9]; decide) (by rw [c_9]; rfl) (by decide) ?_
        exact lw_c_go F R h1 h2 hS hl hlt back
      by_cases c_10 : v = 10
      · refine lv_tableIn (off := (422 : Int)) (tgt := 454) hx hb d_L_law_32 (by rw [c_10]; decide) (by rw [c_10]; decide) (by rw [c_10]; rfl) (by decide) ?_
        exact lw_c_count F R h1 h2 hS hl hlt back
      by_cases c_11 : v = 11
      · refine lv_tableIn (off := (445 : Int)) (tgt := 477) hx hb d_L_law_32 (by rw [c_11]; decide) (by rw [c_11]; decide) (by rw [c_11]; rfl) (by decide) ?_
        exact lw_c_told F R h1 h2 hS hl hlt back
      by_cases c_12 : v = 12
      · refine lv_tableIn (off := (478 : Int)) (tgt := 510) hx hb d_L_law_32 (by rw [c_12]; decide) (by rw [c_12]; decide) (by rw [c_12]; rfl) (by decide) ?_
        exact lw_c_held F R h1 h2 hS hl hlt back
      by_cases c_13 : v = 13
      · refine lv_tableIn (off := (511 : Int)) (tgt := 543) hx hb d_L_law_32 (by rw [c_13]; decide) (by rw [c_13]; decide) (by rw [c_13]; rfl) (by decide) ?_
        exact lw_c_space F R h1 h2 hS hl hlt back
      by_cases c_14 : v = 14
      · refine lv_tableIn (off := (544 : Int)) (tgt := 576) hx hb d_L_law_32 (by rw [c_14]; decide) (by rw [c_14]; decide) (by rw [c_14]; rfl) (by decide) ?_
        exact lw_c_loses F R h1 h2 hS hl hlt back
      by_cases c_15 : v = 15
      · refine lv_tableIn (off := (587 : Int)) (tgt := 619) hx hb d_L_law_32 (by rw [c_15]; decide) (by rw [c_15]; decide) (by rw [c_15]; rfl) (by decide) ?_
        exact lw_c_sees F R h1 h2 hS hl hlt back
      by_cases c_16 : v = 16
      · refine lv_tableIn (off := (620 : Int)) (tgt := 652) hx hb d_L_law_32 (by rw [c_16]; decide) (by rw [c_16]; decide) (by rw [c_16]; rfl) (by decide) ?_
        exact lw_c_barrier F R h1 h2 hS hl hlt back
      by_cases c_17 : v = 17
      · refine lv_tableIn (off := (653 : Int)) (tgt := 685) hx hb d_L_law_32 (by rw [c_17]; decide) (by rw [c_17]; decide) (by rw [c_17]; rfl) (by decide) ?_
        exact lw_c_scope F R h1 h2 hS hl hlt back
      by_cases c_18 : v = 18
      · refine lv_tableIn (off := (686 : Int)) (tgt := 718) hx hb d_L_law_32 (by rw [c_18]; decide) (by rw [c_18]; decide) (by rw [c_18]; rfl) (by decide) ?_
        exact lw_c_hears F R h1 h2 hS hl hlt back
      refine lv_tableOut (tgt := 741) hx hb d_L_law_32 (by have h0 := lv_neT (a := 0) c_0 (by decide); have h1 := lv_neT (a := 1) c_1 (by decide); have h2 := lv_neT (a := 2) c_2 (by decide); have h3 := lv_neT (a := 3) c_3 (by decide); have h4 := lv_neT (a := 4) c_4 (by decide); have h5 := lv_neT (a := 5) c_5 (by decide); have h6 := lv_neT (a := 6) c_6 (by decide); have h7 := lv_neT (a := 7) c_7 (by decide); have h8 := lv_neT (a := 8) c_8 (by decide); have h9 := lv_neT (a := 9) c_9 (by decide); have h10 := lv_neT (a := 10) c_10 (by decide); have h11 := lv_neT (a := 11) c_11 (by decide); have h12 := lv_neT (a := 12) c_12 (by decide); have h13 := lv_neT (a := 13) c_13 (by decide); have h14 := lv_neT (a := 14) c_14 (by decide); have h15 := lv_neT (a := 15) c_15 (by decide); have h16 := lv_neT (a := 16) c_16 (by decide); have h17 := lv_neT (a := 17) c_17 (by decide); have h18 := lv_neT (a := 18) c_18 (by decide); omega) (by decide) ?_
      exact back N K A B Q H locs R h1 h2 hS
set_option maxHeartbeats 4000000 in
set_option maxRecDepth 100000 in
/-- THE LAW, from its entry -/
theorem whole_start {p : Program} {e : Env} {s : State} {m : MethodId} {below : List Frame} {meth : Method} {c : Code} (l : Launch) {b L : Nat} {xs : Nat → Int32} (hL : L ≤ 2048) (C0 : lw_At p s m meth c b L xs) : W p l e room_1 s m #[Value.ref b] below meth c s.heap [] 0 0 (lw_Z below #[Value.ref b] s) (entryFrame m ([Value.ref b] : List Value).toArray 4) := by
  obtain ⟨hx, hb, hr, hml, hown, hts, hX, hbl, hlocks, hgv⟩ := id C0
  have htB : ∀ w ∈ BW, w.before #[Value.ref b] s = true := fun w h => hts w (BW_sub w h)
  have hA : ∀ q : Nat, s.heap.size ≤ q → (fun q : Nat => s.heap.size ≤ q) q := fun _ h => h
  have hO : va_OV s := hts _ q_ao_int
  obtain ⟨c0, iS0, hKn0⟩ := u_known (C := R_C) (T := F_C) (N := 9) (n := 9) htB i_C (htB _ q_inst_C)
  obtain ⟨c1, iS1, hKn1⟩ := u_known (C := R_M) (T := F_M) (N := 16) (n := 16) htB i_M (htB _ q_inst_M)
  obtain ⟨D, hKc⟩ : ∃ D : va_G, ∀ (k : Nat) (q : vw_C), classes[k]? = some q → u_Kn s q.1 q.2.1 q.2.2 (D.1 k) (D.2 k) := by
    refine ⟨(fun k => if k = 0 then c0 else c1, fun k => if k = 0 then iS0 else iS1), ?_⟩
    intro k q hq
    match k, hq with
    | 0, hq => cases hq; exact hKn0
    | 1, hq => cases hq; exact hKn1
    | k + 2, hq => simp [classes] at hq
  have hS : va_S (fun q : Nat => s.heap.size ≤ q) s.heap s.heap [] := va_S.rf
  have hK : va_K D classes [] s := ⟨hKc, fun k q h => by simp at h⟩
  have hP : va_P D classes [] s.heap := fun k q h => by simp at h
  have hD : va_D (fun q : Nat => s.heap.size ≤ q) [] := ⟨fun i j p q h => by simp at h, fun k q h => by simp at h⟩
  have hl := lv_entry ([.ref b]) (n := 4) (Nat.le_of_ble_eq_true rfl)
  rw [lg_entry_eq]
  generalize (lg_sl ([.ref b]) ++ List.replicate (4 - (lg_sl ([.ref b])).length) Slot.unset).toArray = ls at hl ⊢
  have hl : lv_has ls 4 [(0, .ref b)] := hl
  refine va_new (ci := 0) (fs := [.int 0, .null, .null, .null, .int 0, .null, .null, .null, .null]) (C := R_C) (T := F_C) (N := 9) hx hb htB i_C t_C t_C_ok hown (htB _ q_cl_L_7) (htB _ q_inst_C) (htB _ q_ini_C) hK hP hD hS hA rfl (fun j hj => by rcases (show j = 0 ∨ j = 1 ∨ j = 2 ∨ j = 3 ∨ j = 4 ∨ j = 5 ∨ j = 6 ∨ j = 7 ∨ j = 8 by omega) with rfl | rfl | rfl | rfl | rfl | rfl | rfl | rfl | rfl <;> rfl) (Nat.le_of_ble_eq_true rfl) (Nat.le_of_ble_eq_true rfl) d_L_law_0 (fun q0 H hP hD hS => ?_)
  have hP : va_P D classes (nw_C q0) H := hP
  have hD : va_D (fun q : Nat => s.heap.size ≤ q) (nw_C q0) := hD
  refine W.widen (k := 1) (n := 9) (by omega) (by omega) ?_
  refine lv_dup hx hb d_L_law_3 rfl ?_
  have hFc := va_free (wc := nw_C q0) hD hS hA [0] rfl
  refine va_callv (va_runI (As := []) (rest := [.ref q0]) (b := q0) ⟨hx, hb, hml, hown, htB⟩ (c_C_init l D q0 H.size) ⟨xB htB v_L_C_init ⟨rfl, rfl, Nat.le_of_ble_eq_true rfl, Nat.le_of_ble_eq_true rfl⟩, rfl, htB _ q_im_C_init⟩ ⟨fun a U g mk q => ⟨q.1, q.2.1, q.2.2.1, va_K.moved (u := U) (U := U.calling g mk a) (Vm.Alike.refl U.vm) q.2.2.2.1, q.2.2.2.2.1, va_OV.moved (u := U) (U := U.calling g mk a) (Vm.Alike.refl U.vm) q.2.2.2.2.2⟩, fun U hU hW => ⟨rfl, by rw [hU], by rw [hU]; exact hP, va_K.moved hW.alike hK, hD.weaken (fun _ _ _ _ => trivial), va_OV.moved hW.alike hO⟩⟩ rfl rfl hl.1 rfl (lv_room (Nat.le_of_ble_eq_true rfl)) d_L_law_4 ⟨Nat.le_of_ble_eq_true rfl, Nat.le_of_ble_eq_true rfl⟩) hS (fun q _ h => hFc q h) hFc (fun u t H1 locs ht hvm hw hB hz1 hk1 hS => ?_)
  obtain ⟨a, cI, cII⟩ := u
  obtain ⟨hP1, hK1, hD1⟩ := hB
  rw [ht] at hP1
  have hP1 : va_P D classes (wC a cI cII 0 0 (fun _ _ => 0)) H1 := hP1
  have hK1 : va_K D classes (tC cI cII) s := va_K.moved hvm.symm hK1
  have hE1 : va_D (fun q : Nat => s.heap.size ≤ q) (wC a cI cII 0 0 (fun _ _ => 0)) := hD1.weaken (fun k q _ h => hFc q.1 h)
  have hw : a 0 = q0 := hw
  subst hw
  refine W.widen (k := 14) (n := 265) (by omega) (by omega) ?_
  refine lv_astore_n (lv' := [(1, .ref (a 0)), (0, .ref b)]) hx hb d_L_law_7 rfl hl (by decide) rfl (fun ls hl => ?_)
  refine va_new (ci := 1) (fs := [.int 0, .null, .null, .null, .int 0, .null, .null, .null, .null, .int 0, .int 0, .null, .null, .null, .null, .null]) (C := R_M) (T := F_M) (N := 16) hx hb htB i_M t_M t_M_ok hown (htB _ q_cl_L_10) (htB _ q_inst_M) (htB _ q_ini_M) hK hP1 hE1 hS hA rfl (fun j hj => by rcases (show j = 0 ∨ j = 1 ∨ j = 2 ∨ j = 3 ∨ j = 4 ∨ j = 5 ∨ j = 6 ∨ j = 7 ∨ j = 8 ∨ j = 9 ∨ j = 10 ∨ j = 11 ∨ j = 12 ∨ j = 13 ∨ j = 14 ∨ j = 15 by omega) with rfl | rfl | rfl | rfl | rfl | rfl | rfl | rfl | rfl | rfl | rfl | rfl | rfl | rfl | rfl | rfl <;> rfl) (Nat.le_of_ble_eq_true rfl) (Nat.le_of_ble_eq_true rfl) d_L_law_8 (fun q1 H2 hP2 hD2 hS => ?_)
  refine W.widen (k := 15) (n := 281) (by omega) (by omega) ?_
  refine lv_dup hx hb d_L_law_11 rfl ?_
  have hPc : va_P D classes (nw_M q1) H2 := hP2.sub [14] rfl
  have hDc : va_D (fun q : Nat => s.heap.size ≤ q) (nw_M q1) := hD2.sub [14] (by decide) rfl
  have hFc2 := va_free (wc := nw_M q1) hD2 hS hA [14] rfl
  have hAp := lw_apart hP2 hD2
  refine va_callv (va_runI (As := []) (rest := [.ref q1]) (b := q1) ⟨hx, hb, hml, hown, htB⟩ (c_M_init l D q1 H2.size) ⟨xB htB v_L_M_init ⟨rfl, rfl, Nat.le_of_ble_eq_true rfl, Nat.le_of_ble_eq_true rfl⟩, rfl, htB _ q_im_M_init⟩ ⟨fun a U g mk q => ⟨q.1, q.2.1, q.2.2.1, va_K.moved (u := U) (U := U.calling g mk a) (Vm.Alike.refl U.vm) q.2.2.2.1, q.2.2.2.2⟩, fun U hU hW => ⟨rfl, by rw [hU], by rw [hU]; exact hPc, va_K.moved hW.alike hK, hDc.weaken (fun _ _ _ _ => trivial)⟩⟩ rfl rfl hl.1 rfl (lv_room (Nat.le_of_ble_eq_true rfl)) d_L_law_12 ⟨Nat.le_of_ble_eq_true rfl, Nat.le_of_ble_eq_true rfl⟩) hS (fun q _ h => hFc2 q h) hFc2 (fun u t H3 locs3 ht hvm hw hB hz3 hk3 hS => ?_)
  obtain ⟨g, dI, cZ⟩ := u
  obtain ⟨hPM, hKM, hDM⟩ := hB
  rw [ht] at hPM
  have hPM : va_P D classes (wM g dI cZ 0 0 (fun _ _ => 0) (fun _ _ => 0)) H3 := hPM
  have hKM : va_K D classes (tM dI cZ) s := va_K.moved hvm.symm hKM
  have hDM : va_D (va_A (nw_M q1) H2.size) (wM g dI cZ 0 0 (fun _ _ => 0) (fun _ _ => 0)) := hDM
  have hPC : va_P D classes (wC a cI cII 0 0 (fun _ _ => 0)) H3 := (lw_left hP2).kept (fun k q hq => hk3 q.1 (hAp k q hq).1 (hAp k q hq).2)
  have hw : g 0 = q1 := hw
  have F : lw_F p s m meth c b L xs D a cI cII g dI cZ (fun q => ∃ (k : Nat) (x : va_E), (wC a cI cII 0 0 (fun _ _ => 0))[k]? = some (q, x)) (fun q => ∃ (k : Nat) (x : va_E), (wM g dI cZ 0 0 (fun _ _ => 0) (fun _ _ => 0))[k]? = some (q, x)) :=
    ⟨C0, hL, hK1, hKM, ⟨hE1.1, fun k q h => ⟨k, q.2, h⟩⟩, ⟨hDM.1, fun k q h => ⟨k, q.2, h⟩⟩, fun q h => h.elim fun k h => h.elim fun x h => hE1.2 k (q, x) h, fun q h => h.elim fun k h => h.elim fun x h => hFc2 q (hDM.2 k (q, x) h), fun q h h' => h.elim fun k h => h.elim fun x h => h'.elim fun k' h' => h'.elim fun x' h' => (hAp k (q, x) h).2 (hDM.2 k' (q, x') h')⟩
  subst hw
  refine W.widen (k := 27) (n := 2391) (by omega) (by omega) ?_
  refine lv_astore_n (lv' := [(2, .ref (g 0)), (1, .ref (a 0)), (0, .ref b)]) hx hb d_L_law_15 rfl hl (by decide) rfl (fun ls hl => ?_)
  refine lv_iconst (v := 0) hx hb d_L_law_16 (by decide) ?_
  refine lv_istore_n (lv' := [(3, .int 0), (2, .ref (g 0)), (1, .ref (a 0)), (0, .ref b)]) hx hb d_L_law_17 rfl hl (by decide) rfl (fun ls hl => ?_)
  exact law_loop F (L + 1) 0 (Nat.zero_le L) (by omega) 0 0 (fun _ _ => 0) (fun _ _ => 0) (fun _ _ => 0) _ _ ls Rel_0 (by rw [nI_0]; exact hPC) (by rw [nI_0]; exact hPM) hS (by rw [nI_0]; exact lv_sub hl [3, 2, 1, 0] rfl)
