/-! THE SMALL MACHINE IS SOUND: what it runs to, the machine runs to -/
theorem z_ge {b : Nat} {ex : Nat → Value} {cA : Nat → ClassId} {D : va_G} {cl : List vw_C} {h : List zC} {H : Heap} (hP : va_P D cl (z_ws b ex cA h) H) (hb : b ≤ H.size) : b + h.length ≤ H.size := by
  cases hl : h.length with
  | zero => omega
  | succ k =>
    have hk : k < h.length := by omega
    have h1 := (hP k _ (z_ws_get (b := b) (ex := ex) (cA := cA) (List.getElem?_eq_getElem hk))).lt
    simp only at h1
    omega
theorem z_lg {vs : List Value} (h : ∀ v ∈ vs, v.category = 1) : (lg_sl vs).length = vs.length := by
  induction vs with
  | nil => rfl
  | cons v t ih =>
    have h1 := h v List.mem_cons_self
    have h2 := ih (fun w hw => h w (List.mem_cons_of_mem _ hw))
    simp only [lg_sl, List.flatMap_cons, List.length_append] at h2 ⊢
    rw [if_neg (by omega), h2]
    simp only [List.length_cons, List.length_nil]
    omega
theorem z_la : ∀ (vs : List Value) (k i : Nat) (v : Value), (∀ v ∈ vs, v.category = 1) → vs[i]? = some v → (k + i, v) ∈ lv_args k vs
  | [], k, i, v, _, h => by simp at h
  | w :: t, k, 0, v, _, h => by
    simp only [List.getElem?_cons_zero, Option.some.injEq] at h
    subst h
    exact List.mem_cons_self
  | w :: t, k, i + 1, v, hc, h => by
    simp only [List.getElem?_cons_succ] at h
    have h1 := z_la t (k + 1) i v (fun x hx => hc x (List.mem_cons_of_mem _ hx)) h
    have h2 : (if w.category = 2 then k + 2 else k + 1) = k + 1 := by rw [if_neg]; have := hc w List.mem_cons_self; omega
    unfold lv_args
    rw [h2]
    refine List.mem_cons_of_mem _ ?_
    rw [show k + (i + 1) = k + 1 + i by omega]
    exact h1
theorem z_entry {b : Nat} {ex : Nat → Value} {As : List Value} {n : Nat} (hc : ∀ v ∈ As, (z_v b ex v).category = 1) (hn : As.length ≤ n) : z_ls b ex n (zent n As) ((lg_sl (As.map (z_v b ex)) ++ List.replicate (n - (lg_sl (As.map (z_v b ex))).length) Slot.unset).toArray) := by
  have hc' : ∀ v ∈ As.map (z_v b ex), v.category = 1 := by
    intro v hv
    obtain ⟨w, hw, rfl⟩ := List.mem_map.mp hv
    exact hc w hw
  have hl := lv_entry (As.map (z_v b ex)) (n := n) (by rw [z_lg hc', List.length_map]; exact hn)
  refine ⟨?_, hl.1, hl.2.1, fun i v hi => ?_⟩
  · simp only [zent, List.length_append, List.length_map, List.length_replicate]
    omega
  · have hi2 : As[i]? = some v := by
      unfold zent at hi
      by_cases hlt : i < As.length
      · rw [List.getElem?_append_left (by rw [List.length_map]; exact hlt), List.getElem?_map] at hi
        cases hq : As[i]? with
        | none => rw [hq] at hi; cases hi
        | some w => rw [hq] at hi; cases hi; rfl
      · rw [List.getElem?_append_right (by rw [List.length_map]; omega), List.getElem?_replicate] at hi
        split at hi
        · cases hi
        · cases hi
    have h1 := z_la (As.map (z_v b ex)) 0 i (z_v b ex v) hc' (by rw [List.getElem?_map, hi2]; rfl)
    rw [Nat.zero_add] at h1
    exact hl.2.2 _ h1
/-- a local is forgotten -/
theorem z_st0 {b : Nat} {ex : Nat → Value} (hex : ∀ i, ex i = .null ∨ ∃ q, ex i = .ref q) {nL i : Nat} {L : zL} {ls ls' : Array Slot} {q : Nat} (hl : z_ls b ex nL L ls) (hi : i < L.length) (hg : zlg L i = false) (h : lv_has ls' nL ((i, .ref q) :: (z_lv b ex L).filter (fun q => !(q.1 == i) && !(q.1 + 1 == i && q.2.category == 2)))) : z_ls b ex nL (L.set i none) ls' := by
  refine ⟨by rw [List.length_set]; exact hl.1, h.1, h.2.1, fun j v hj => ?_⟩
  by_cases hji : j = i
  · subst hji
    rw [List.getElem?_set_self hi] at hj
    cases hj
  · rw [List.getElem?_set_ne (Ne.symm hji)] at hj
    refine h.2.2 (j, z_v b ex v) (List.mem_cons_of_mem _ (List.mem_filter.mpr ⟨z_lv_mem.mpr ⟨v, hj, rfl⟩, ?_⟩))
    simp only [Bool.and_eq_true, Bool.not_eq_true']
    refine ⟨by simpa using hji, ?_⟩
    cases hc : (j + 1 == i && (z_v b ex v).category == 2) with
    | false => rfl
    | true =>
      simp only [Bool.and_eq_true] at hc
      have h1 : j + 1 = i := by simpa using hc.1
      subst h1
      exfalso
      rcases z_cat2 hex hc.2 with ⟨x, rfl⟩ | ⟨x, rfl⟩
      · simp [zlg, hj] at hg
      · simp [zlg, hj] at hg
/-- all of one slot -/
theorem z_cat1 : ∀ {vs : List Value}, zcat vs = vs.length → ∀ v ∈ vs, v.category = 1 := by
  intro vs
  have hge : ∀ ws : List Value, ws.length ≤ zcat ws := by
    intro ws
    induction ws with
    | nil => exact Nat.le_refl _
    | cons w t ih =>
      have : 1 ≤ w.category := by cases w <;> simp [Value.category]
      simp only [zcat, List.map_cons, List.sum_cons, List.length_cons] at ih ⊢
      omega
  induction vs with
  | nil => intro _ v hv; cases hv
  | cons w t ih =>
    intro h v hv
    have h1 : 1 ≤ w.category := by cases w <;> simp [Value.category]
    have h2 := hge t
    simp only [zcat, List.map_cons, List.sum_cons, List.length_cons] at h h2 ⊢
    rcases List.mem_cons.mp hv with rfl | hv
    · omega
    · exact ih (by simp only [zcat]; omega) v hv
theorem z_nbeq {a c : Nat} (h : a ≠ c) : Nat.beq a c = false := by
  cases hq : Nat.beq a c with
  | false => rfl
  | true => exact absurd (Nat.eq_of_beq_eq_true hq) h
theorem zrecv_any {E : zX} {h : zH} {v : Value} (k : zrecv E h 99 (some v) = true) : ∃ a, v = .ref a := by
  cases v with
  | ref a => exact ⟨a, rfl⟩
  | float i => cases k
  | _ => cases k
theorem zrecv_cls {E : zX} {h : zH} {v : Value} {q : Nat} (hq : q < 90) (k : zrecv E h (q + 1) (some v) = true) : ∃ (a : Nat) (o : Nat × List Value), v = .ref a ∧ h.1[a]? = some (.inr o) ∧ o.1 = q := by
  have e1 : Nat.beq (q + 1) 0 = false := rfl
  have e2 : Nat.beq (q + 1) 99 = false := z_nbeq (by omega)
  have e3 : Nat.beq (q + 1) 101 = false := z_nbeq (by omega)
  cases v with
  | ref a =>
    simp only [zrecv, e1, e2, cond_false] at k
    split at k
    · rename_i o ho
      exact ⟨a, o, rfl, ho, by have := Nat.eq_of_beq_eq_true k; omega⟩
    · cases k
  | float i =>
    simp only [zrecv, e1, e3, cond_false, Bool.false_and] at k
    cases k
  | _ => simp only [zrecv, e1, cond_false] at k; cases k
theorem zrecv_str {E : zX} {h : zH} {v : Value} (k : zrecv E h 101 (some v) = true) : (∃ (i j : UInt32), v = .float i ∧ E[i.toNat]? = some (.inl j)) ∨ ∃ (a : Nat) (o : Nat × List Value), v = .ref a ∧ h.1[a]? = some (.inr o) ∧ o.1 = 100 := by
  have e1 : Nat.beq 101 0 = false := rfl
  have e2 : Nat.beq 101 99 = false := rfl
  have e3 : Nat.beq 101 101 = true := rfl
  cases v with
  | ref a =>
    simp only [zrecv, e1, e2, cond_false] at k
    split at k
    · rename_i o ho
      exact Or.inr ⟨a, o, rfl, ho, by have := Nat.eq_of_beq_eq_true k; omega⟩
    · cases k
  | float i =>
    simp only [zrecv, e1, e3, cond_false, Bool.true_and] at k
    split at k
    · rename_i j hj
      exact Or.inl ⟨i, j, rfl, hj⟩
    · cases k
  | _ => simp only [zrecv, e1, cond_false] at k; cases k
theorem z_ent1 {As : List Value} {n : Nat} (hc : ∀ v ∈ As, v.category = 1) : ∀ (i : Nat) (v : Value), (zent n As)[i]? = some (some v) → v.category = 1 := by
  intro i v hi
  unfold zent at hi
  by_cases hlt : i < As.length
  · rw [List.getElem?_append_left (by rw [List.length_map]; exact hlt), List.getElem?_map] at hi
    cases hq : As[i]? with
    | none => rw [hq] at hi; cases hi
    | some w => rw [hq] at hi; cases hi; exact hc _ (List.mem_of_getElem? hq)
  · rw [List.getElem?_append_right (by rw [List.length_map]; omega), List.getElem?_replicate] at hi
    split at hi
    · cases hi
    · cases hi
section ZW
variable {P : Nat → Option zM} {Cd : List (List Value)} {E : zX} {SX : List (String × Nat × String × Nat)} {WB : List Cond} {NC : List (String × String)} {fm : Nat} {cl : List vw_C} {Ts : List Cond} {Y : Nat → MethodName} {B : Nat → ByteArray} {HH : Nat → List (Nat × Nat × Nat × Nat)} {l : Launch} {b : Nat} {ex : Nat → Value} {cA : Nat → ClassId} {D : va_G}
def z_Fx (Ts : List Cond) (Y : Nat → MethodName) (B : Nat → ByteArray) (HH : Nat → List (Nat × Nat × Nat × Nat)) (p : Program) (s : State) (m : MethodId) (args : Array Value) (meth : Method) (c : Code) (M : Nat) (mt : zM) : Prop :=
  p.tables.exec = Jvm.exec ∧ c.code = B M ∧ c.maxLocals = mt.2.1 ∧ meth.sig.returnType = mt.2.2.1 ∧ s.vm.findClass (Y M).cls = some m.cls ∧ (∀ w ∈ Ts, w.before args s = true) ∧ meth.name = (Y M).name ∧ meth.locks = false ∧ c.exceptionTable.toList = tableOf (HH M)
def z_Main (P : Nat → Option zM) (Cd : List (List Value)) (E : zX) (SX : List (String × Nat × String × Nat)) (WB : List Cond) (NC : List (String × String)) (fm : Nat) (cl : List vw_C) (Ts : List Cond) (Y : Nat → MethodName) (B : Nat → ByteArray) (HH : Nat → List (Nat × Nat × Nat × Nat)) (l : Launch) (b : Nat) (ex : Nat → Value) (cA : Nat → ClassId) (D : va_G) (n : Nat) : Prop :=
  ∀ (d M : Nat) (mt : zM) (pc : Nat) (L : zL) (st : List Value) (h : zH) (o : zO) (h' : zH), P M = some mt → zrun P Cd E n d M pc L st h = some (o, h') →
  ∀ (p : Program) (e : Env) (s : State) (m : MethodId) (args : Array Value) (below : List Frame) (meth : Method) (c : Code), z_Fx Ts Y B HH p s m args meth c M mt → z_Wd b ex cA D cl E SX WB NC fm s →
  ∀ (H : Heap) (locs : List Loc) (cells slots : Nat) (ls : Array Slot) (h0 : zH), z_ls b ex mt.2.1 L ls → ((Y M).name ≠ "spelled" → ∀ (i : Nat) (v : Value), L[i]? = some (some v) → v.category = 1) → va_P D cl (z_ws b ex cA h.1) H → va_S (z_A b) s.heap H locs → zle h0 h → (h0.2 = 0 → s.heap.size = b + h0.1.length) → cells + zcn h0 = zcn h → slots + zsn h0 = zsn h →
  W p l e (z_room d (zcn h' - zcn h0) (zsn h' - zsn h0)) s m args below meth c H locs cells slots (vx_MQ below (z_Qc b ex cA D cl o h') (z_XC b ex cA D cl o h') args s (zcn h' - zcn h0) (zsn h' - zsn h0) (z_A b)) (F0 m pc ls (st.map (z_v b ex)))
set_option maxHeartbeats 4000000 in
/-- a method's contract out of the run of its body -/
theorem z_met {n : Nat} (ih : z_Main P Cd E SX WB NC fm cl Ts Y B HH l b ex cA D n) (hex : ∀ i, ex i = .null ∨ ∃ q, ex i = .ref q) (hpl : ∀ M mt, P M = some mt → plainName (Y M).cls = true ∧ z_cw Y B HH M mt ∈ Ts)
    {d M : Nat} {mt : zM} (hM : P M = some mt) {As : List Value} (hAs : As.length ≤ mt.2.1) (hcat : zcat As = As.length) {h : zH} {o : zO} {h' : zH} (hr : zrun P Cd E n d M 0 (zent mt.2.1 As) [] h = some (o, h')) :
    vx_Met l (Y M) (z_cw Y B HH M mt :: Ts) (z_room d (zcn h' - zcn h) (zsn h' - zsn h)) (z_Pc b ex cA D cl E SX WB NC fm As h) (z_Qc b ex cA D cl o h') (z_XC b ex cA D cl o h') (zcn h' - zcn h) (zsn h' - zsn h) (z_A b) := by
  have hc1 : ∀ v ∈ As, (z_v b ex v).category = 1 := fun v hv => by
    rw [z_v_cat (fun i => by rcases hex i with q | ⟨a, q⟩ <;> rw [q] <;> rfl)]
    exact z_cat1 hcat v hv
  have body : ∀ (p : Program) (e : Env) (s : State) (m : MethodId) (args : Array Value) (below : List Frame) (meth : Method) (c : Code) (s₁ : State), BodyLoose p l (Y M) (headSpec (z_cw Y B HH M mt :: Ts) (z_room d (zcn h' - zcn h) (zsn h' - zsn h))) (B M) mt.2.1 mt.2.2.1 e s m args below meth c s₁ → c.maxLocals = mt.2.1 → c.exceptionTable.toList = tableOf (HH M) → z_Pc b ex cA D cl E SX WB NC fm As h args s →
      W p l e (headSpec (z_cw Y B HH M mt :: Ts) (z_room d (zcn h' - zcn h) (zsn h' - zsn h))).room s m args below meth c s.heap [] 0 0 (vx_MQ below (z_Qc b ex cA D cl o h') (z_XC b ex cA D cl o h') args s (zcn h' - zcn h) (zsn h' - zsn h) (z_A b)) (entryFrame m args mt.2.1) := by
    intro p e s m args below meth c s₁ Bd hml htab hv
    obtain ⟨rfl, hP, hWd, -, hsz⟩ := hv
    rw [lg_entry_eq]
    have hts := atoms_spec (ws := z_cw Y B HH M mt :: Ts) Bd.pre
    exact ih d M mt 0 (zent mt.2.1 As) [] h o h' hM hr p e s m _ below meth c ⟨Bd.exec, Bd.bytes, hml, Bd.returns, findClass_of_methodNamed Bd.named, fun w hw => hts w (List.mem_cons_of_mem _ hw), (name_of_methodNamed Bd.named Bd.method).1, Bd.notSynchronized, htab⟩ hWd s.heap [] 0 0 _ h (z_entry hc1 hAs) (fun _ => z_ent1 (z_cat1 hcat)) hP va_S.rf (zle_rfl h) hsz (Nat.zero_add _) (Nat.zero_add _)
  obtain ⟨hp1, -⟩ := hpl M mt hM
  cases hH : HH M with
  | nil =>
    have hw : z_cw Y B HH M mt = Cond.code (Y M) (B M) mt.2.1 mt.2.2.1 := by unfold z_cw; rw [hH]
    refine vx_ofW (cc := B M) (maxL := mt.2.1) (ret := mt.2.2.1) (ws' := Ts) hp1 (by rw [hw]) ?_
    intro p e s m args below meth c s₁ Bd hml htab hv
    refine body p e s m args below meth c s₁ Bd hml ?_ hv
    rw [hH]
    cases hq : c.exceptionTable.toList with
    | nil => rfl
    | cons x t => exact (htab x (by rw [hq]; exact List.mem_cons_self)).elim
  | cons q r =>
    have hw : z_cw Y B HH M mt = Cond.codeWith (Y M) (B M) mt.2.1 mt.2.2.1 (q :: r) := by unfold z_cw; rw [hH]
    refine vx_ofWH (cc := B M) (maxL := mt.2.1) (ret := mt.2.2.1) (ws' := Ts) hp1 (by rw [hw]) ?_
    intro p e s m args below meth c s₁ Bd hml hv
    refine body p e s m args below meth c s₁ Bd hml ?_ hv
    rw [hH]
    refine vx_table (x := Y M) Bd ?_ (bytes := B M) (maxL' := mt.2.1) (ret' := mt.2.2.1)
    rw [← hw]
    exact atoms_spec (ws := z_cw Y B HH M mt :: Ts) Bd.pre _ List.mem_cons_self
theorem z_good (hTg : ∀ w ∈ Ts, goodWord w = true) {w0 : Cond} (h0 : w0 ∈ Ts) : GoodIn Ts (w0 :: Ts) := fun w hw => by
  rcases List.mem_cons.mp hw with rfl | hw
  · exact ⟨h0, good_of_word (hTg _ h0)⟩
  · exact ⟨hw, good_of_word (hTg _ hw)⟩
set_option maxHeartbeats 8000000 in
/-- a call, out of the callee's contract -/
theorem z_call {n : Nat} (ih : z_Main P Cd E SX WB NC fm cl Ts Y B HH l b ex cA D n) (hex : ∀ i, ex i = .null ∨ ∃ q, ex i = .ref q) (hpl : ∀ M mt, P M = some mt → plainName (Y M).cls = true ∧ z_cw Y B HH M mt ∈ Ts) (hmx : ∀ M mt, P M = some mt → mt.2.1 ≤ 40) (hTg : ∀ w ∈ Ts, goodWord w = true) (hcl : cl[100]? = none)
    {d1 M pc r1 r2 r3 mc ms : Nat} {ct mt : zM} (hct : P r1 = some ct) (hok : z_okC WB cl Ts Y B HH M pc r1 r2 r3 ct) {st : List Value} {h h1 : zH} {o1 : zO}
    (k1 : r2 ≤ st.length) (k2 : r2 ≤ ct.2.1) (k3 : zcat (st.take r2) = r2) (k4 : zcat (st.drop r2) ≤ 8) (k5 : zrecv E h r3 ((st.take r2).reverse).head? = true) (hr : zrun P Cd E n d1 r1 0 (zent ct.2.1 (st.take r2).reverse) [] h = some (o1, h1))
    {p : Program} {e : Env} {s : State} {m : MethodId} {args : Array Value} {below : List Frame} {meth : Method} {c : Code} (hF : z_Fx Ts Y B HH p s m args meth c M mt) (hWd : z_Wd b ex cA D cl E SX WB NC fm s)
    {H : Heap} {locs : List Loc} {cells slots : Nat} {ls : Array Slot} {h0 : zH} (hls : ls.size = mt.2.1) (hP : va_P D cl (z_ws b ex cA h.1) H) (hS : va_S (z_A b) s.heap H locs) (hle : zle h0 h) (hs0 : h0.2 = 0 → s.heap.size = b + h0.1.length) (hc0 : cells + zcn h0 = zcn h) (hsz : H.size ≤ s.heap.size + cells)
    (hf : cells + (zcn h1 - zcn h) ≤ mc ∧ slots + (zsn h1 - zsn h) ≤ ms) :
    vx_Run p l e (z_room (d1 + 1) mc ms) s m args below meth c H locs cells slots (zcn h1 - zcn h) (zsn h1 - zsn h) (F0 m pc ls (st.map (z_v b ex))) ((st.drop r2).map (z_v b ex)) (z_Qc b ex cA D cl o1 h1 (((st.take r2).reverse).map (z_v b ex)).toArray) (z_XC b ex cA D cl o1 h1) (z_A b) := by
  have hlen : (st.take r2).reverse.length = r2 := by rw [List.length_reverse, List.length_take]; omega
  have hcat : zcat (st.take r2).reverse = (st.take r2).reverse.length := by
    rw [hlen]
    have : zcat (st.take r2).reverse = zcat (st.take r2) := by simp only [zcat, List.map_reverse, List.sum_reverse]
    omega
  have hM := z_met ih hex hpl hct (d := d1) (As := (st.take r2).reverse) (by omega) hcat hr
  obtain ⟨hx, hb, hml, hrt, hown, hts, hnm, hlocks, htab⟩ := hF
  have hbs : b ≤ s.heap.size := hWd.2.2.2.2.2.2.2.2.2
  have hge := z_ge hP (Nat.le_trans hbs hS.1)
  have hpc : FrameBlind (z_Pc b ex cA D cl E SX WB NC fm (st.take r2).reverse h) := fun a U g mk q => by
    obtain ⟨q0, q1, q2, q3, q4⟩ := q
    exact ⟨q0, q1, q2.to (U := U.calling g mk a) (State.WarmedH.refl U) (Nat.le_refl _) (fun _ _ _ => rfl), q3, q4⟩
  have hpre : ∀ U : State, U.heap = H → s.WarmedH U.vm → z_Pc b ex cA D cl E SX WB NC fm (st.take r2).reverse h (((st.take r2).reverse).map (z_v b ex)).toArray U := fun U hU hW => by
    refine ⟨rfl, by rw [hU]; exact hP, hWd.to hW (by rw [hU]; exact hS.1) (fun q q1 q2 => by rw [hU]; exact hS.2.1 q q1 q2), by rw [hU]; exact hge, fun q => ?_⟩
    rw [hU]
    have h1 := hs0 (by have := hle.2.1; omega)
    simp only [zcn] at hc0
    have := hle.2.1
    omega
  have hst : st.map (z_v b ex) = (((st.take r2).reverse).map (z_v b ex)).reverse ++ (st.drop r2).map (z_v b ex) := by
    rw [← List.map_reverse, List.reverse_reverse, ← List.map_append, List.take_append_drop]
  have hcr : (((st.drop r2).map (z_v b ex)).map fun v => v.category).sum ≤ 8 := by
    have e1 : ((st.drop r2).map (z_v b ex)).map (fun v => v.category) = (st.drop r2).map (fun v => v.category) := by
      rw [List.map_map]
      exact List.map_congr_left fun v _ => z_v_cat (fun i => by rcases hex i with q | ⟨a, q⟩ <;> rw [q] <;> rfl) v
    rw [e1]
    exact k4
  have hrm : (z_room d1 (zcn h1 - zcn h) (zsn h1 - zsn h)).frames + 1 ≤ (z_room (d1 + 1) mc ms).frames ∧ 8 + (ct.2.1 + 11) + (z_room d1 (zcn h1 - zcn h) (zsn h1 - zsn h)).locals ≤ (z_room (d1 + 1) mc ms).locals := by
    have := hmx _ _ hct
    constructor
    · exact Nat.le_refl _
    · show 8 + (ct.2.1 + 11) + 64 * d1 ≤ 64 * (d1 + 1)
      omega
  have hroom : (F0 m pc ls (st.map (z_v b ex))).locals.size = mt.2.1 := hls
  have hfix : CallFix p m c (B M) mt.2.1 s args Ts (Y M).cls := ⟨hx, hb, hml, hown, hts⟩
  have hlr : 2 * (F0 m pc ls (st.map (z_v b ex))).monitorRoom + (((st.drop r2).map (z_v b ex)).map fun v => v.category).sum ≤ 8 := lv_room (rest := st.map (z_v b ex)) hcr
  obtain ⟨hp1, hcw⟩ := hpl _ _ hct
  obtain ⟨idx, n1, n2, hini, hV | hSt | hSw | hI⟩ := hok
  · obtain ⟨hH, hd, hl, hin, ⟨k, rfl, hpar⟩, C, hsel, hC⟩ := hV
    have hw : z_cw Y B HH r1 ct = Cond.code (Y r1) (B r1) ct.2.1 ct.2.2.1 := by unfold z_cw; rw [hH]
    -- the receiver
    cases hAs : (st.take (k + 1)).reverse with
    | nil => rw [hAs] at hlen; cases hlen
    | cons v As =>
      have hlA : As.length = k := by rw [hAs] at hlen; simpa using hlen
      rw [hAs] at hM hpc hpre hst k5
      have hrecv : ∃ q : Nat, z_v b ex v = .ref q ∧ ∃ cellB : Cell, H[q]? = some cellB ∧ cellB.vm.isStatics = false ∧ s.vm.findClass C = some cellB.cls := by
        simp only [List.head?_cons] at k5
        rcases hC with ⟨rfl, rfl⟩ | ⟨q, T, N, rfl, hq, hcq⟩
        · rcases zrecv_str k5 with ⟨i, j, rfl, hj⟩ | ⟨a, o9, rfl, ho, h9⟩
          · obtain ⟨a, t, e1, -, hO, -, -⟩ := hWd.2.1 _ _ hj
            obtain ⟨cell, g1, g2, g3, -⟩ := hO.kept hS.2.1
            exact ⟨a, e1, cell, g1, g2, g3⟩
          · exfalso
            obtain ⟨r9, h2, -⟩ := hP a _ (z_ws_get (b := b) (ex := ex) (cA := cA) ho)
            rw [h9, hcl] at h2
            cases h2
        · obtain ⟨a, o9, rfl, ho, h9⟩ := zrecv_cls hq k5
          obtain ⟨ci, fs⟩ := o9
          simp only at h9
          subst h9
          exact ⟨b + a, rfl, va_recv (q := (C, T, N)) (hWd.1) hP hcq (z_ws_get ho)⟩
      obtain ⟨q, hvq, hcell⟩ := hrecv
      simp only [List.map_cons, hvq] at hM hpre hst ⊢
      have hcB := callB_of (R := z_room (d1 + 1) mc ms) (s := s) (args := args) (own := (Y M).cls) (index := idx) (y := Y r1) (bytes := B r1) (maxL := ct.2.1) (ret := ct.2.2.1) (ws := z_cw Y B HH r1 ct :: Ts) (ws' := Ts) k hts (z_good hTg hcw) (by rw [hw]) rfl rfl (hts _ hini) (hts _ hl) ⟨n1, n2, hpar⟩ hrm
      refine vx_runV hfix hM ⟨hcB, hts _ hin, hts _ hsel⟩ ⟨hpc, hcell, hpre⟩ rfl (by rw [List.length_map]; exact hlA) hroom ?_ hlr hd hf
      rw [hst]
      simp
  · obtain ⟨hH, hd, hl, hstt, hpar⟩ := hSt
    have hw : z_cw Y B HH r1 ct = Cond.code (Y r1) (B r1) ct.2.1 ct.2.2.1 := by unfold z_cw; rw [hH]
    have hcB := callB_of (R := z_room (d1 + 1) mc ms) (s := s) (args := args) (own := (Y M).cls) (index := idx) (y := Y r1) (bytes := B r1) (maxL := ct.2.1) (ret := ct.2.2.1) (ws := z_cw Y B HH r1 ct :: Ts) (ws' := Ts) r2 hts (z_good hTg hcw) (by rw [hw]) rfl rfl (hts _ hini) (hts _ hl) ⟨n1, n2, hpar⟩ hrm
    exact vx_runS hfix hM ⟨hcB, hts _ hstt⟩ ⟨hpc, hpre⟩ rfl (by rw [List.length_map]; exact hlen) hroom hst hlr hd hf
  · obtain ⟨hH, hd, hl, hstt, hpar⟩ := hSw
    cases hHq : HH r1 with
    | nil => exact absurd hHq hH
    | cons q r =>
      have hw : z_cw Y B HH r1 ct = Cond.codeWith (Y r1) (B r1) ct.2.1 ct.2.2.1 (q :: r) := by unfold z_cw; rw [hHq]
      have hG := z_good hTg hcw
      refine vx_runSX (n := r2) (hh := q :: r) (bytes := B r1) (maxL := ct.2.1) (ret := ct.2.2.1) hfix hM ⟨⟨rfl, rfl, hrm.1, hrm.2, pay_in hts hG, by rw [hw]; exact List.mem_cons_self⟩, by rw [← hw]; exact hts _ hcw, hts _ hini, ⟨n1, n2⟩, fun sig hsig => ?_, hts _ hl, hts _ hstt⟩ ⟨hpc, hpre⟩ rfl (by rw [List.length_map]; exact hlen) hroom hst hlr hd hf
      rw [hsig] at hpar
      exact (Option.some.inj hpar).symm
  · obtain ⟨hH, hd, rfl, hnm1, hret0, hin, ⟨k, rfl, hpar⟩, hlk⟩ := hI
    have hw : z_cw Y B HH r1 ct = Cond.code (Y r1) (B r1) ct.2.1 none := by unfold z_cw; rw [hH, hret0]
    cases hAs : (st.take (k + 1)).reverse with
    | nil => rw [hAs] at hlen; cases hlen
    | cons v As =>
      have hlA : As.length = k := by rw [hAs] at hlen; simpa using hlen
      rw [hAs] at hM hpc hpre hst k5
      have hrecv : ∃ q : Nat, v = .ref q := zrecv_any k5
      obtain ⟨q, rfl⟩ := hrecv
      simp only [List.map_cons] at hM hpre hst ⊢
      have hst2 : (F0 m pc ls (st.map (z_v b ex))).stack = (As.map (z_v b ex)).reverse ++ Value.ref (b + q) :: (st.drop (k + 1)).map (z_v b ex) := by
        show st.map (z_v b ex) = _
        rw [hst]
        simp [z_v]
      rcases hlk with hl | ⟨host, hl⟩
      · have hcB := callB_of (R := z_room (d1 + 1) mc ms) (s := s) (args := args) (own := (Y M).cls) (index := idx) (y := Y r1) (bytes := B r1) (maxL := ct.2.1) (ret := none) (ws := z_cw Y B HH r1 ct :: Ts) (ws' := Ts) k hts (z_good hTg hcw) (by rw [hw]) rfl rfl (hts _ hini) (hts _ hl) ⟨n1, n2, hpar⟩ hrm
        exact vx_runI (b := b + q) hfix hM ⟨hcB, hnm1, hts _ hin⟩ ⟨hpc, hpre⟩ rfl (by rw [List.length_map]; exact hlA) hroom hst2 hlr hd hf
      · have hcN := va_cnB (R := z_room (d1 + 1) mc ms) (s := s) (args := args) (own := (Y M).cls) (host := host) (index := idx) (y := Y r1) (bytes := B r1) (maxL := ct.2.1) (ret := none) (ws := z_cw Y B HH r1 ct :: Ts) (ws' := Ts) (rm := z_room d1 (zcn h1 - zcn h) (zsn h1 - zsn h)) k hts (z_good hTg hcw) (by rw [hw]) rfl rfl (hWd.2.2.2.2.2.2.2.1 _ hl).2 (hts _ hini) ⟨n1, n2, hpar⟩ hrm
        exact vx_runIN (b := b + q) hfix hM ⟨hcN, hnm1, hts _ hin⟩ ⟨hpc, hpre⟩ rfl (by rw [List.length_map]; exact hlA) hroom hst2 hlr hd hf
end ZW
