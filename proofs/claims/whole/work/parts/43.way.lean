/-! The way and its first barrier: class and reference find the same. -/
def cl (f : Nat → Int32) : Nat → Int32 → Int32 → List Int32
  | 0, _, _ => []
  | k + 1, v, t => if v = t then [] else if v = (-1 : Int32) then [] else v :: cl f k (f v.toNatClampNeg) t
theorem cl_S (f : Nat → Int32) (k : Nat) (v t : Int32) : cl f (k + 1) v t = if v = t then [] else if v = (-1 : Int32) then [] else v :: cl f k (f v.toNatClampNeg) t := rfl
def fo (N K : Nat) (B : Nat → Nat → Int32) (d : Int32) : List Int32 → Int32
  | [] => d
  | v :: l => if m_isShut N K B B v = (0 : Int32) then fo N K B d l else v
def fi1 (N K : Nat) (B : Nat → Nat → Int32) (v d : Int32) : Int32 := if m_isShut N K B B v = (0 : Int32) then (if B 0 v.toNatClampNeg = (3 : Int32) then v else d) else v
def fi (N K : Nat) (B : Nat → Nat → Int32) : List Int32 → Int32 → Int32
  | [], d => d
  | v :: l, d => fi N K B l (fi1 N K B v d)
section WY
variable {N K : Nat} {A B Q : Nat → Nat → Int32}
theorem fi_app (l : List Int32) (v d : Int32) : fi N K B (l ++ [v]) d = fi1 N K B v (fi N K B l d) := by
  induction l generalizing d with
  | nil => rfl
  | cons u l ih => exact ih _
theorem ch_dec {f : Nat → Int32} {k : Nat} {v : Int32} (h : ch N f (k + 1) v) (hv : ¬ v = (-1 : Int32)) : ∃ j : Nat, j < N ∧ v = nI j ∧ ch N f k (f j) := by
  rcases h with h | h
  · exact absurd h hv
  · exact h
theorem y_out (R : Rel N K A B) (tp : Int32) : ∀ (k i : Nat) (v : Int32), ch N (B 1) k v → k_firstBarrierOut_5 N K A tp k i v = fo N K B (-1 : Int32) (cl (B 1) k v tp) := by
  have hN := R.hN
  intro k
  induction k with
  | zero => intro i v _; rfl
  | succ k ih =>
    intro i v hc
    rw [k_firstBarrierOut_5_S, cl]
    by_cases c1 : v = tp
    · rw [if_pos c1, if_pos c1]; rfl
    · rw [if_neg c1, if_neg c1]
      by_cases c2 : v = (-1 : Int32)
      · rw [if_pos c2, if_pos c2]; rfl
      · obtain ⟨j, hj, rfl, hc2⟩ := ch_dec hc c2
        rw [if_neg c2, if_neg c2, fo, eSh (Q := B) R hj, eH_j R hj, nI_clamp (by omega), ih (i + 1) _ hc2]
theorem y_in (R : Rel N K A B) (tp : Int32) : ∀ (k i : Nat) (d v : Int32), ch N (B 1) k v → k_firstBarrierIn_19 N K A tp k i d v = fi N K B (cl (B 1) k v tp) d := by
  have hN := R.hN
  intro k
  induction k with
  | zero => intro i d v _; rfl
  | succ k ih =>
    intro i d v hc
    rw [k_firstBarrierIn_19_S, cl]
    by_cases c1 : v = tp
    · rw [if_pos c1, if_pos c1]; rfl
    · rw [if_neg c1, if_neg c1]
      by_cases c2 : v = (-1 : Int32)
      · rw [if_pos c2, if_pos c2]; rfl
      · obtain ⟨j, hj, rfl, hc2⟩ := ch_dec hc c2
        rw [if_neg c2, if_neg c2, fi, fi1, eSh (Q := B) R hj, eH_j R hj, nI_clamp (by omega), ih (i + 1) _ _ hc2, ih (i + 1) _ _ hc2]
        by_cases c3 : m_isShut N K B B (nI j) = (0 : Int32)
        · rw [if_pos c3, if_pos c3]
          by_cases c4 : B 0 j = (3 : Int32)
          · rw [if_pos c4, if_neg (fun q => (ePe R hj).mp q c4)]
          · rw [if_neg c4, if_pos ((ePe R hj).mpr c4)]
        · rw [if_neg c3, if_neg c3]
theorem cl_fuel (hN : N ≤ 30) {f : Nat → Int32} (t : Int32) : ∀ (k : Nat) (v : Int32), ch N f k v → cl f k v t = cl f (k + 1) v t := by
  intro k
  induction k with
  | zero =>
    intro v hc
    rw [cl, cl]
    by_cases c1 : v = t
    · rw [if_pos c1]
    · rw [if_neg c1, if_pos (show v = (-1 : Int32) from hc)]
  | succ k ih =>
    intro v hc
    rw [cl_S f k, cl_S f (k + 1)]
    by_cases c1 : v = t
    · rw [if_pos c1, if_pos c1]
    · rw [if_neg c1, if_neg c1]
      by_cases c2 : v = (-1 : Int32)
      · rw [if_pos c2, if_pos c2]
      · obtain ⟨j, hj, rfl, hc2⟩ := ch_dec hc c2
        rw [if_neg c2, if_neg c2, nI_clamp (by omega), ih _ hc2]
theorem tp_fuel (R : Rel N K A B) (x : Int32) : ∀ (k i i' : Nat) (v : Int32), ch N (B 1) k v → k_turningPoint_5 N K A x k i v = k_turningPoint_5 N K A x (k + 1) i' v := by
  intro k
  induction k with
  | zero =>
    intro i i' v hc
    rw [k_turningPoint_5_S, if_pos (show v = (-1 : Int32) from hc)]
    rfl
  | succ k ih =>
    intro i i' v hc
    rw [k_turningPoint_5_S, k_turningPoint_5_S N K A x (k + 1)]
    by_cases c1 : v = (-1 : Int32)
    · rw [if_pos c1, if_pos c1]
    · obtain ⟨j, hj, rfl, hc2⟩ := ch_dec hc c1
      rw [if_neg c1, if_neg c1, eH_j R hj, ih (i + 1) (i' + 1) _ hc2]
theorem fo_def {d : Int32} (l : List Int32) (h : ∀ v ∈ l, ¬ v = (-1 : Int32)) : fo N K B d l = (if fo N K B (-1 : Int32) l = (-1 : Int32) then d else fo N K B (-1 : Int32) l) := by
  induction l with
  | nil => rw [fo, fo, if_pos rfl]
  | cons v l ih =>
    rw [fo, fo]
    by_cases c : m_isShut N K B B v = (0 : Int32)
    · rw [if_pos c, if_pos c]; exact ih (fun u hu => h u (List.mem_cons_of_mem _ hu))
    · rw [if_neg c, if_neg c, if_neg (h v List.mem_cons_self)]
theorem fo_flt {d who : Int32} (hw : m_isShut N K B B who = (0 : Int32)) (l : List Int32) : fo N K B d (l.filter (fun v => !(v == who))) = fo N K B d l := by
  induction l with
  | nil => rfl
  | cons v l ih =>
    by_cases e : v = who
    · subst e
      rw [List.filter_cons_of_neg (by simp), ih, fo, if_pos hw]
    · rw [List.filter_cons_of_pos (by simpa using e), fo, fo, ih]
theorem cl_mem {f : Nat → Int32} {t : Int32} : ∀ (k : Nat) (v : Int32), ∀ u ∈ cl f k v t, ¬ u = (-1 : Int32) := by
  intro k
  induction k with
  | zero => intro v u hu; cases hu
  | succ k ih =>
    intro v u hu
    rw [cl] at hu
    by_cases c1 : v = t
    · rw [if_pos c1] at hu; cases hu
    · rw [if_neg c1] at hu
      by_cases c2 : v = (-1 : Int32)
      · rw [if_pos c2] at hu; cases hu
      · rw [if_neg c2] at hu
        rcases List.mem_cons.mp hu with e | h
        · rw [e]; exact c2
        · exact ih _ u h
def stO (Q : Nat → Nat → Int32) (l : List Int32) : Prop := Q 5 0 = nI l.length ∧ l.length ≤ 30 ∧ ∀ (i : Nat) (v : Int32), l[i]? = some v → Q 0 i = v
def stI (Q : Nat → Nat → Int32) (l : List Int32) : Prop := Q 5 1 = nI l.length ∧ l.length ≤ 30 ∧ ∀ (i : Nat) (v : Int32), l[i]? = some v → Q 1 i = v
theorem app_at {l : List Int32} {u v : Int32} {i : Nat} (h : (l ++ [u])[i]? = some v) : l[i]? = some v ∨ (i = l.length ∧ v = u) := by
  rcases Nat.lt_or_ge i l.length with q | q
  · rw [List.getElem?_append_left q] at h; exact Or.inl h
  · rw [List.getElem?_append_right q] at h
    have h2 := (List.getElem?_eq_some_iff.mp h).1
    have h3 : i - l.length = 0 := by have : ([u] : List Int32).length = 1 := rfl; omega
    rw [h3] at h
    cases h
    exact Or.inr ⟨by omega, rfl⟩
theorem lt_at {l : List Int32} {v : Int32} {i : Nat} (h : l[i]? = some v) : i < l.length := (List.getElem?_eq_some_iff.mp h).1
theorem y_90 (hN : N ≤ 30) {u : Int32} : ∀ (k : Nat) (Q : Nat → Nat → Int32) (v : Int32) (li : List Int32), hit N (B 1) k v u → fwI Q k → stI Q li → (m_findWay_90 N K B u k Q v).1 = (1 : Int32) ∧ stI (m_findWay_90 N K B u k Q v).2 (li ++ cl (B 1) k v u) ∧ (m_findWay_90 N K B u k Q v).2 0 = Q 0 ∧ (m_findWay_90 N K B u k Q v).2 5 0 = Q 5 0 := by
  intro k
  induction k with
  | zero => intro Q v li h; exact absurd h hit_0
  | succ k ih =>
    intro Q v li h hf hs
    rw [m_findWay_90_S, cl]
    by_cases c : v = u
    · rw [if_pos c, if_pos c, List.append_nil]; exact ⟨rfl, hs, rfl, rfl⟩
    · obtain ⟨j, hj, ej⟩ := hit_j h c
      have hm1 : ¬ v = (-1 : Int32) := by rw [ej]; exact nI_m1 hN hj
      have hin := vp_lt (fi_in h hf c)
      obtain ⟨s1, s2, s3⟩ := hs
      rw [s1, nI_clamp (by omega)] at hin
      have e0 : (Q 5 1).toNatClampNeg = li.length := by rw [s1, nI_clamp (by omega)]
      rw [if_neg c, if_neg c, if_neg hm1, show li ++ v :: cl (B 1) k (B 1 v.toNatClampNeg) u = (li ++ [v]) ++ cl (B 1) k (B 1 v.toNatClampNeg) u from by rw [List.append_assoc]; rfl]
      refine ih _ _ (li ++ [v]) (hit_next hN h c) (fwI_up hf rfl) ⟨?_, ?_, fun i w hw => ?_⟩
      · show Q 5 1 + (1 : Int32) = _
        rw [s1, nI_1, List.length_append]; rfl
      · rw [List.length_append]; show li.length + 1 ≤ 30; omega
      · show upd (Q 1) (Q 5 1).toNatClampNeg v i = w
        rw [e0]
        rcases app_at hw with h2 | ⟨h2, h3⟩
        · rw [pk_un (Nat.ne_of_lt (lt_at h2))]; exact s3 i w h2
        · rw [h2, pk_us]; exact h3.symm
theorem stO_keep {Q' : Nat → Nat → Int32} {l : List Int32} (h : stO Q l) (h0 : Q' 0 = Q 0) (h5 : Q' 5 0 = Q 5 0) : stO Q' l := ⟨h5.trans h.1, h.2.1, fun i v hv => by rw [h0]; exact h.2.2 i v hv⟩
theorem y_12 (R : Rel N K A B) {j : Nat} (hj : j < N) (who : Int32) : ∀ (k i : Nat) (Q : Nat → Nat → Int32) (v : Int32) (lo : List Int32), chp N (B 1) k v → fwO Q k → Q 5 1 = (0 : Int32) → stO Q lo →
    (k_turningPoint_5 N K A (nI j) k i v = (-1 : Int32) → (m_findWay_12 N K B who (nI j) k Q v).1 = (0 : Int32)) ∧
    (¬ k_turningPoint_5 N K A (nI j) k i v = (-1 : Int32) → (m_findWay_12 N K B who (nI j) k Q v).1 = (1 : Int32) ∧
      stO (m_findWay_12 N K B who (nI j) k Q v).2 (lo ++ (cl (B 1) k v (k_turningPoint_5 N K A (nI j) k i v)).filter (fun u => !(u == who))) ∧
      stI (m_findWay_12 N K B who (nI j) k Q v).2 (cl (B 1) 31 (if k_turningPoint_5 N K A (nI j) k i v = nI j then nI j else B 1 j) (k_turningPoint_5 N K A (nI j) k i v))) := by
  have hN := R.hN
  intro k
  induction k with
  | zero => intro i Q v lo h; exact absurd h chp_0
  | succ k ih =>
    intro i Q v lo h hf h0 hs
    have hi : stI Q [] := ⟨h0, by decide, fun i v hv => by cases i <;> cases hv⟩
    rw [k_turningPoint_5_S, m_findWay_12_S]
    by_cases c1 : v = (-1 : Int32)
    · rw [if_pos c1, if_pos c1]; exact ⟨fun _ => rfl, fun q => absurd rfl q⟩
    · rw [if_neg c1, if_neg c1]
      obtain ⟨w, hw, rfl, hc⟩ := chp_dec h c1
      by_cases c2 : nI w = nI j
      · rw [if_pos c2, if_pos c2]
        refine ⟨fun q => absurd q c1, fun _ => ?_⟩
        obtain ⟨g1, g2, g3, g4⟩ := y_90 (K := K) (B := B) hN (u := nI w) 31 Q (nI w) [] hit_rf (fwI_0 h0) hi
        have e : cl (B 1) (k + 1) (nI w) (nI w) = [] := by rw [cl, if_pos rfl]
        rw [if_pos c2, e, ← c2]
        exact ⟨g1, by rw [show ([] : List Int32).filter (fun u => !(u == who)) = [] from rfl, List.append_nil]; exact stO_keep hs g3 g4, g2⟩
      · rw [if_neg c2, if_neg c2, eW (Q := Q) R (nI_m1 hN hw) hj]
        by_cases c3 : m_isWithin N K B Q (nI j) (nI w) = (0 : Int32)
        · rw [if_pos c3, if_pos c3, eH_j R hw, nI_clamp (n := w) (by omega)]
          have e : ∀ t, ¬ t = (-1 : Int32) → ¬ nI w = t → cl (B 1) (k + 1) (nI w) t = nI w :: cl (B 1) k (B 1 w) t := fun t _ ht => by rw [cl, if_neg ht, if_neg c1, nI_clamp (by omega)]
          -- the turning point further up is not this one
          have hne : ∀ (n i : Nat) (u : Int32), chp N (B 1) n u → k_turningPoint_5 N K A (nI j) n i u = nI w → False := by
            intro n
            induction n with
            | zero => intro i u hu; exact absurd hu chp_0
            | succ n ihn =>
              intro i u hu q
              rw [k_turningPoint_5_S] at q
              by_cases d1 : u = (-1 : Int32)
              · rw [if_pos d1] at q; exact c1 q.symm
              · rw [if_neg d1] at q
                by_cases d2 : u = nI j
                · rw [if_pos d2] at q; exact c2 (q.symm.trans d2)
                · rw [if_neg d2] at q
                  obtain ⟨z, hz, rfl, hcz⟩ := chp_dec hu d1
                  by_cases d3 : k_isWithin N K A (nI j) (nI z) = (0 : Int32)
                  · rw [if_pos d3, eH_j R hz] at q; exact ihn _ _ hcz q
                  · rw [if_neg d3] at q
                    rw [q, eW (Q := Q) R (nI_m1 hN hw) hj] at d3
                    exact d3 c3
          by_cases c4 : nI w = who
          · rw [if_pos c4]
            obtain ⟨g1, g2⟩ := ih (i + 1) Q (B 1 w) lo hc (fwO_keep hf) h0 hs
            refine ⟨g1, fun q => ?_⟩
            have g3 := g2 q
            rw [e _ q (fun z => hne k (i + 1) (B 1 w) hc z.symm), List.filter_cons_of_neg (by simpa using c4)]
            exact g3
          · rw [if_neg c4]
            have hin := vp_lt (fw_in h hf c1)
            obtain ⟨s1, s2, s3⟩ := hs
            rw [s1, nI_clamp (by omega)] at hin
            have e0 : (Q 5 0).toNatClampNeg = lo.length := by rw [s1, nI_clamp (by omega)]
            obtain ⟨g1, g2⟩ := ih (i + 1) (sU (sU Q 0 (Q 5 0).toNatClampNeg (nI w)) 5 0 (((sU Q 0 (Q 5 0).toNatClampNeg (nI w)) 5 0) + (1 : Int32))) (B 1 w) (lo ++ [nI w]) hc (fwO_up hf rfl) h0 ⟨by
                show Q 5 0 + (1 : Int32) = _
                rw [s1, nI_1, List.length_append]; rfl, by rw [List.length_append]; show lo.length + 1 ≤ 30; omega, fun i z hz => by
                show upd (Q 0) (Q 5 0).toNatClampNeg (nI w) i = z
                rw [e0]
                rcases app_at hz with h2 | ⟨h2, h3⟩
                · rw [pk_un (Nat.ne_of_lt (lt_at h2))]; exact s3 i z h2
                · rw [h2, pk_us]; exact h3.symm⟩
            refine ⟨g1, fun q => ?_⟩
            have g3 := g2 q
            rw [e _ q (fun z => hne k (i + 1) (B 1 w) hc z.symm), List.filter_cons_of_pos (by simpa using c4), show lo ++ nI w :: (cl (B 1) k (B 1 w) (k_turningPoint_5 N K A (nI j) k (i + 1) (B 1 w))).filter (fun u => !(u == who)) = (lo ++ [nI w]) ++ (cl (B 1) k (B 1 w) (k_turningPoint_5 N K A (nI j) k (i + 1) (B 1 w))).filter (fun u => !(u == who)) from by rw [List.append_assoc]; rfl]
            exact g3
        · rw [if_neg c3, if_neg c3]
          refine ⟨fun q => absurd q c1, fun _ => ?_⟩
          have hx : ∃ i : Nat, i < N ∧ nI j = nI i := ⟨j, hj, rfl⟩
          have hh := hit_of hN R.hC hx c3
          obtain ⟨g1, g2, g3, g4⟩ := y_90 (K := K) (B := B) hN (u := nI w) 31 Q _ [] hh (fwI_0 h0) hi
          have e : cl (B 1) (k + 1) (nI w) (nI w) = [] := by rw [cl, if_pos rfl]
          rw [if_neg c2, e]
          rw [nI_clamp (n := j) (by omega)] at g1 g2 g3 g4
          rw [nI_clamp (n := j) (by omega)]
          exact ⟨g1, by rw [show ([] : List Int32).filter (fun u => !(u == who)) = [] from rfl, List.append_nil]; exact stO_keep hs g3 g4, g2⟩
theorem y_43 {li : List Int32} (hs : stI Q li) : ∀ k : Nat, k ≤ li.length → m_firstBarrier_43 N K B Q k = fi N K B (li.take k) (-1 : Int32) := by
  intro k
  induction k with
  | zero => intro _; rfl
  | succ k ih =>
    intro hk
    have hv : li[k]? = some (li[k]'(by omega)) := List.getElem?_eq_getElem (by omega)
    have e := hs.2.2 k _ hv
    rw [m_firstBarrier_43_S, ih (by omega), List.take_succ, hv, Option.toList_some, fi_app, fi1, e]
    by_cases c : m_isShut N K B Q (li[k]'(by omega)) = (0 : Int32)
    · rw [if_pos c, if_pos (show m_isShut N K B B (li[k]'(by omega)) = (0 : Int32) from c)]
    · rw [if_neg c, if_neg (show ¬ m_isShut N K B B (li[k]'(by omega)) = (0 : Int32) from c)]
theorem y_2 {lo : List Int32} (hs : stO Q lo) : ∀ k i : Nat, i + k = lo.length → m_firstBarrier_2 N K B Q k i = fo N K B (m_firstBarrier_43 N K B Q (Q 5 1).toNatClampNeg) (lo.drop i) := by
  intro k
  induction k with
  | zero => intro i hi; rw [List.drop_eq_nil_of_le (by omega)]; rfl
  | succ k ih =>
    intro i hi
    have hv : lo[i]? = some (lo[i]'(by omega)) := List.getElem?_eq_getElem (by omega)
    have e := hs.2.2 i _ hv
    rw [m_firstBarrier_2_S, ih (i + 1) (by omega), List.drop_eq_getElem_cons (show i < lo.length by omega), fo, e]
    by_cases c : m_isShut N K B Q (lo[i]'(by omega)) = (0 : Int32)
    · rw [if_pos c, if_pos (show m_isShut N K B B (lo[i]'(by omega)) = (0 : Int32) from c)]
    · rw [if_neg c, if_neg (show ¬ m_isShut N K B B (lo[i]'(by omega)) = (0 : Int32) from c)]
theorem y_fb (hN : N ≤ 30) {lo li : List Int32} (ho : stO Q lo) (hi : stI Q li) : m_firstBarrier N K B Q = fo N K B (fi N K B li (-1 : Int32)) lo := by
  have e1 : (Q 5 0).toNatClampNeg = lo.length := by rw [ho.1, nI_clamp (by have := ho.2.1; omega)]
  have e2 : (Q 5 1).toNatClampNeg = li.length := by rw [hi.1, nI_clamp (by have := hi.2.1; omega)]
  rw [m_firstBarrier, e1, y_2 ho _ 0 (by omega), e2, y_43 hi _ (Nat.le_refl _), List.take_length, List.drop_zero]
/-- the first barrier of the class is that of the reference -/
theorem y_main (R : Rel N K A B) {w j : Nat} (hw : w < N) (hj : j < N) (hp : B 0 w = (3 : Int32)) :
    (k_firstBarrier N K A (nI w) (nI j) = (-5 : Int32) ∧ (m_findWay N K B Q (nI w) (nI j)).1 = (0 : Int32)) ∨
    (¬ k_firstBarrier N K A (nI w) (nI j) = (-5 : Int32) ∧ (m_findWay N K B Q (nI w) (nI j)).1 = (1 : Int32) ∧ k_firstBarrier N K A (nI w) (nI j) = m_firstBarrier N K B (m_findWay N K B Q (nI w) (nI j)).2) := by
  have hN := R.hN
  have hC30 : ch N (B 1) 30 (nI w) := Or.inr ⟨w, hw, rfl, (R.hC w hw).2⟩
  have hsh : m_isShut N K B B (nI w) = (0 : Int32) := by
    rw [m_isShut, nI_clamp (by omega), if_neg (by rw [hp]; decide)]
  have h12 := y_12 R hj (nI w) 31 0 (sU (sU Q 5 0 (0 : Int32)) 5 1 (0 : Int32)) (nI w) [] (chp_th R.hC ⟨w, hw, rfl⟩) (fwO_0 rfl) rfl ⟨rfl, by decide, fun i v hv => by cases i <;> cases hv⟩
  have etp : k_turningPoint N K A (nI w) (nI j) = k_turningPoint_5 N K A (nI j) 31 0 (nI w) := tp_fuel R (nI j) 30 0 0 (nI w) hC30
  rw [← etp] at h12
  rw [k_firstBarrier]
  generalize k_turningPoint N K A (nI w) (nI j) = tp at h12 ⊢
  by_cases c1 : tp = (-1 : Int32)
  · rw [if_pos c1]
    exact Or.inl ⟨rfl, h12.1 c1⟩
  · rw [if_neg c1]
    obtain ⟨g1, g2, g3⟩ := h12.2 c1
    have eout : k_firstBarrierOut N K A (nI w) tp = fo N K B (-1 : Int32) (cl (B 1) 31 (nI w) tp) := by
      rw [k_firstBarrierOut, y_out R tp 30 0 _ hC30, cl_fuel hN tp 30 _ hC30]
    have ein : k_firstBarrierIn N K A tp (nI j) = fi N K B (cl (B 1) 31 (if tp = nI j then nI j else B 1 j) tp) (-1 : Int32) := by
      rw [k_firstBarrierIn]
      by_cases c2 : tp = nI j
      · rw [if_pos c2, if_pos c2, cl_S, if_pos c2.symm]; rfl
      · have hc : ch N (B 1) 30 (B 1 j) := ch_mono (R.hC j hj).2 (by omega)
        rw [if_neg c2, if_neg c2, eH_j R hj, y_in R tp 30 0 _ _ hc, cl_fuel hN tp 30 _ hc]
    have efb : m_firstBarrier N K B (m_findWay N K B Q (nI w) (nI j)).2 = fo N K B (k_firstBarrierIn N K A tp (nI j)) (cl (B 1) 31 (nI w) tp) := by
      rw [ein, m_findWay, y_fb hN g2 g3, List.nil_append, fo_flt hsh]
    have hmem : ∀ u ∈ cl (B 1) 31 (nI w) tp, ¬ u = (-1 : Int32) := cl_mem 31 (nI w)
    have e2 : m_firstBarrier N K B (m_findWay N K B Q (nI w) (nI j)).2 = (if k_firstBarrierOut N K A (nI w) tp = (-1 : Int32) then k_firstBarrierIn N K A tp (nI j) else k_firstBarrierOut N K A (nI w) tp) := by
      rw [efb, fo_def _ hmem, eout]
    have ge : ∀ (k : Nat) (v : Int32), ch N (B 1) k v → ∀ u ∈ cl (B 1) k v tp, ∃ i : Nat, i < N ∧ u = nI i := by
      intro k
      induction k with
      | zero => intro v _ u hu; cases hu
      | succ k ih =>
        intro v hc u hu
        rw [cl_S] at hu
        by_cases d1 : v = tp
        · rw [if_pos d1] at hu; cases hu
        · rw [if_neg d1] at hu
          by_cases d2 : v = (-1 : Int32)
          · rw [if_pos d2] at hu; cases hu
          · rw [if_neg d2] at hu
            obtain ⟨i, hi, rfl, hc2⟩ := ch_dec hc d2
            rcases List.mem_cons.mp hu with e | h
            · exact ⟨i, hi, e⟩
            · rw [nI_clamp (by omega)] at h; exact ih _ hc2 u h
    have n5 : ∀ i, i < N → ¬ nI i = (-5 : Int32) := fun i hi q => nI_pos (n := i) (by omega) (by rw [q]; decide)
    have fo5 : ∀ (l : List Int32), (∀ u ∈ l, ∃ i : Nat, i < N ∧ u = nI i) → ¬ fo N K B (-1 : Int32) l = (-5 : Int32) := by
      intro l
      induction l with
      | nil => intro _; rw [fo]; decide
      | cons v l ih =>
        intro h
        rw [fo]
        by_cases c : m_isShut N K B B v = (0 : Int32)
        · rw [if_pos c]; exact ih (fun u hu => h u (List.mem_cons_of_mem _ hu))
        · rw [if_neg c]
          obtain ⟨i, hi, rfl⟩ := h v List.mem_cons_self
          exact n5 i hi
    have fi5 : ∀ (l : List Int32) (d : Int32), ¬ d = (-5 : Int32) → (∀ u ∈ l, ∃ i : Nat, i < N ∧ u = nI i) → ¬ fi N K B l d = (-5 : Int32) := by
      intro l
      induction l with
      | nil => intro d hd _; exact hd
      | cons v l ih =>
        intro d hd h
        refine ih _ ?_ (fun u hu => h u (List.mem_cons_of_mem _ hu))
        obtain ⟨i, hi, rfl⟩ := h v List.mem_cons_self
        rw [fi1]
        by_cases c : m_isShut N K B B (nI i) = (0 : Int32)
        · rw [if_pos c]
          by_cases c4 : B 0 (nI i).toNatClampNeg = (3 : Int32)
          · rw [if_pos c4]; exact n5 i hi
          · rw [if_neg c4]; exact hd
        · rw [if_neg c]; exact n5 i hi
    refine Or.inr ⟨?_, g1, ?_⟩
    · by_cases c3 : k_firstBarrierOut N K A (nI w) tp = (-1 : Int32)
      · rw [if_pos c3, ein]
        refine fi5 _ _ (by decide) ?_
        by_cases c2 : tp = nI j
        · rw [if_pos c2, cl_S, if_pos c2.symm]; intro u hu; cases hu
        · rw [if_neg c2]; exact ge 31 _ (ch_mono (R.hC j hj).2 (by omega))
      · rw [if_neg c3, eout]
        exact fo5 _ (ge 31 _ (ch_mono hC30 (by omega)))
    · rw [e2]
end WY
