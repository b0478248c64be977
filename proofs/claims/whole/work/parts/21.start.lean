def zEs : List (List Int32) → Nat → zX
  | [], _ => []
  | bs :: r, i => .inl (UInt32.ofNat (2 * i + 2)) :: .inr (3, bs.length, fun j => bs.getD j 0) :: zEs r (i + 1)
/-- what lies outside: the script, the texts -/
def zE (L : Nat) (xs : Nat → Int32) : zX := .inr (0, L, xs) :: zEs zTx 0
theorem zEs_of : ∀ (l : List (List Int32)) (i k : Nat) (q : UInt32 ⊕ (Nat × Nat × (Nat → Int32))), (zEs l i)[k]? = some q → ∃ (j : Nat) (bs : List Int32), l[j]? = some bs ∧ ((k = 2 * j ∧ q = .inl (UInt32.ofNat (2 * (i + j) + 2))) ∨ (k = 2 * j + 1 ∧ q = .inr (3, bs.length, fun j => bs.getD j 0)))
  | [], i, k, q, h => by simp [zEs] at h
  | bs :: r, i, 0, q, h => by
    simp only [zEs, List.getElem?_cons_zero, Option.some.injEq] at h
    exact ⟨0, bs, rfl, Or.inl ⟨rfl, h.symm⟩⟩
  | bs :: r, i, 1, q, h => by
    simp only [zEs, List.getElem?_cons_succ, List.getElem?_cons_zero, Option.some.injEq] at h
    exact ⟨0, bs, rfl, Or.inr ⟨rfl, h.symm⟩⟩
  | bs :: r, i, k + 2, q, h => by
    simp only [zEs, List.getElem?_cons_succ] at h
    obtain ⟨j, b9, h1, h2⟩ := zEs_of r (i + 1) k q h
    refine ⟨j + 1, b9, h1, ?_⟩
    rcases h2 with ⟨e1, e2⟩ | ⟨e1, e2⟩
    · exact Or.inl ⟨by omega, by rw [e2, show i + 1 + j = i + (j + 1) by omega]⟩
    · exact Or.inr ⟨by omega, e2⟩
theorem z_arr {s : State} {args : Array Value} {ty : FieldType} (h : (Cond.arrayClass ty).before args s = true) : ∃ cA : ClassId, s.vm.findClass ("[" ++ ty.toString) = some cA ∧ ArrOfT s cA ty := by
  obtain ⟨c, k, comp, h1, h2, h3⟩ := Cond.arrayClass_spec h
  exact ⟨c, h1, fun n z => ⟨fun k h => (by cases h), k, h2, comp, h3⟩⟩
theorem z_hasRoom {s : State} {pl : Platform} {r r' : Room} (h : s.hasRoom pl r = true) (h1 : r'.frames ≤ r.frames) (h2 : r'.locals ≤ r.locals) (h3 : r'.cells ≤ r.cells) (h4 : r'.slots ≤ r.slots) : s.hasRoom pl r' = true := by
  unfold State.hasRoom at h ⊢
  simp only [Bool.and_eq_true, decide_eq_true_eq] at h ⊢
  obtain ⟨⟨⟨⟨a1, a2, a3, a4, a5, a6⟩, b⟩, d⟩, f⟩ := h
  exact ⟨⟨⟨⟨by omega, by omega, by omega, by omega, by omega, a6⟩, by omega⟩, by omega⟩, f⟩
/-- the outer references -/
def zex (b : Nat) (fv : Value) (sp : Nat → Nat × Nat) (k : Nat) : Value := if k = 0 then .ref b else if k = 59 then fv else if k % 2 = 1 then .ref (sp ((k - 1) / 2)).1 else .ref (sp ((k - 2) / 2)).2
theorem zex_odd {b : Nat} {fv : Value} {sp : Nat → Nat × Nat} {j : Nat} (h : j < 29) : zex b fv sp (2 * j + 1) = .ref (sp j).1 := by
  unfold zex
  rw [if_neg (by omega), if_neg (by omega), if_pos (by omega), show (2 * j + 1 - 1) / 2 = j by omega]
theorem zex_even {b : Nat} {fv : Value} {sp : Nat → Nat × Nat} {j : Nat} (h : j < 28) : zex b fv sp (2 * j + 2) = .ref (sp j).2 := by
  unfold zex
  rw [if_neg (by omega), if_neg (by omega), if_neg (by omega), show (2 * j + 2 - 2) / 2 = j by omega]
set_option maxHeartbeats 8000000 in
theorem z_world {s : State} {b L : Nat} {xs : Nat → Int32} (hts : ∀ w ∈ zWs, w.before #[Value.ref b] s = true) (hX : va_X b L xs s s.heap) (hbl : b < s.heap.size) (hL : L ≤ 3072) (hgv : (Jvm.Cond.and given_1 narrow_1).before #[Value.ref b] s = true) :
    ∃ (ex : Nat → Value) (cA : Nat → ClassId) (D : va_G), (∀ i, ex i = .null ∨ ∃ q, ex i = .ref q) ∧ ex 0 = .ref b ∧ z_Wd s.heap.size ex cA D zCl (zE L xs) zSx zWb zNc zFm s := by
  have hs : ∀ w ∈ zNar, w.before #[Value.ref b] s = true := flat_of_before _ hgv
  have hA : ∀ a : Nat, a < s.heap.size → ¬ z_A s.heap.size a := fun a h => Nat.not_le.mpr h
  have hT : ∀ w ∈ zTs, w.before #[Value.ref b] s = true := fun w hw => hts w (List.mem_filter.mp hw).1
  -- the texts
  have hstr : ∀ i : Nat, ∃ p : Nat × Nat, (i < 29 → ∃ q, zSx[i]? = some q ∧ (zSt q).eval #[Value.ref b] s none [] s = some (.ref p.1) ∧ q.2.2.2 = 2 * i + 1 ∧ (Cond.stringRef q.1 q.2.1 q.2.2.1).before #[Value.ref b] s = true) ∧
      (i < 18 → va_O "java/lang/String" p.1 (z_A s.heap.size) s s.heap ∧ va_OF "java/lang/String" "coder" "B" (.int 0) p.1 (z_A s.heap.size) s s.heap ∧ va_OF "java/lang/String" "value" "[B" (.ref p.2) p.1 (z_A s.heap.size) s s.heap ∧ ∀ bs, zTx[i]? = some bs → va_T .byte p.2 bs.length (fun j => .int (bs.getD j 0)) (z_A s.heap.size) s s.heap) := by
    intro i
    by_cases h29 : i < 29
    · have hc := List.all_eq_true.mp zE_all i (List.mem_range.mpr h29)
      unfold zckE at hc
      split at hc
      · rename_i q pp hq hpp
        simp only [Bool.and_eq_true, decide_eq_true_eq] at hc
        obtain ⟨⟨c1, c2⟩, c3⟩ := hc
        have hsr : (Cond.stringRef q.1 q.2.1 q.2.2.1).before #[Value.ref b] s = true := hts _ (zword_mem c2)
        by_cases h18 : i < 18
        · have ht := List.all_eq_true.mp zT_all i (List.mem_range.mpr h18)
          unfold zckTi at ht
          rw [hq] at ht
          split at ht
          · rename_i q' bs h1 h2
            cases h1
            unfold zckT at ht
            simp only [Bool.and_eq_true, decide_eq_true_eq] at ht
            obtain ⟨⟨⟨⟨t1, t2⟩, t3⟩, t4⟩, t5⟩ := ht
            have t4 : bs.length < 1000 := by simpa using t4
            obtain ⟨adK, adV, hv, he⟩ := vk_Sof (args := #[Value.ref b]) (s := s) (N := 1) (tm := fun _ => zSt q) (len := [bs.length]) (byt := [bs]) (A := z_A s.heap.size)
              (fun j hj => by
                have : j = 0 := by omega
                subst this
                show bs.length < 2 ^ 31
                omega)
              (fun _ _ => hs _ c1) (fun _ _ => hs _ t1) (fun _ _ => hs _ t2)
              (fun j hj => by
                have : j = 0 := by omega
                subst this
                exact hs _ t3)
              (fun j hj k hk => by
                have : j = 0 := by omega
                subst this
                have := List.all_eq_true.mp t5 k (List.mem_range.mpr hk)
                exact hs _ (of_decide_eq_true this))
              (fun a c h1 h2 h3 => absurd (show a = c by omega) h3) hA
            obtain ⟨v1, v2, v3, v4⟩ := hv.1 0 (by omega)
            refine ⟨(adK 0, adV 0), fun _ => ⟨q, hq, he 0 (by omega), c3, hsr⟩, fun _ => ⟨v1, v2, v3, fun bs' hb' => ?_⟩⟩
            rw [h2] at hb'
            cases hb'
            exact v4
          · cases ht
        · obtain ⟨a, c, cell, k, q1, -⟩ := Cond.exactly_spec (args := #[Value.ref b]) (first := s) (o := none) (s := s) (idx := []) (t := zSt q) (cls := "java/lang/String") (hs _ c1)
          exact ⟨(a, 0), fun _ => ⟨q, hq, q1, c3, hsr⟩, fun h => absurd h h18⟩
      · cases hc
    · exact ⟨(0, 0), fun h => absurd h h29, fun h => absurd h (by omega)⟩
  obtain ⟨sp, hsp⟩ := Classical.skolem.mp hstr
  -- statics
  have hw := zL_word
  simp only [Bool.and_eq_true, decide_eq_true_eq] at hw
  obtain ⟨⟨⟨⟨⟨⟨w0, w1⟩, w2⟩, w3⟩, w4⟩, w5⟩, w6⟩ := hw
  obtain ⟨n0, n1, n2, n3, n4, n5⟩ := zN_nar
  have hz0 : va_Z "java/lang/String" "COMPACT_STRINGS" "Z" (.int 1) (z_A s.heap.size) s s.heap := va_Zof (hts _ (zword_mem w0)) (hts _ (zword_mem w4)) (va_eqt (hs _ n0)) hA
  have hz1 := va_Zqof (A := z_A s.heap.size) (hts _ (zword_mem w1)) (hts _ (zword_mem w5)) (hs _ n1) hA
  have hz2 := vx_Zqof (A := z_A s.heap.size) (hts _ (zword_mem w2)) (hts _ (zword_mem w6)) (hs _ n2) hA
  have hz3 := vx_Zqof (A := z_A s.heap.size) (hts _ (zword_mem w3)) (hts _ (zword_mem w6)) (hs _ n3) hA
  obtain ⟨fv, hfv, hz1⟩ : ∃ fv : Value, (fv = .null ∨ ∃ q, fv = .ref q) ∧ va_Z "jdk/internal/util/Preconditions" "SIOOBE_FORMATTER" "Ljava/util/function/BiFunction;" fv (z_A s.heap.size) s s.heap := by
    rcases hz1 with h | ⟨t, h⟩
    · exact ⟨.null, Or.inl rfl, h⟩
    · exact ⟨.ref t, Or.inr ⟨t, rfl⟩, h⟩
  -- classes
  have hKn : ∀ c : Nat, ∃ p : ClassId × (Nat → Nat), ∀ q : vw_C, zCl[c]? = some q → u_Kn s q.1 q.2.1 q.2.2 p.1 p.2 := by
    intro c
    cases hq : zCl[c]? with
    | none => exact ⟨(0, fun _ => 0), fun q h => by cases h⟩
    | some q =>
      obtain ⟨C, T, N⟩ := q
      have hlt : c < 13 := by
        have h1 : zCl.length = 13 := by unfold zCl; rw [List.length_map]; decide +kernel
        have := (List.getElem?_eq_some_iff.mp hq).1
        omega
      have hd := List.all_eq_true.mp zD_all c (List.mem_range.mpr hlt)
      unfold zckD at hd
      split at hd
      · rename_i f q fs ty h1 h2 h3 h4
        simp only [Bool.and_eq_true, decide_eq_true_eq] at hd
        have hcl : zCl[c]? = some (f.1, (fun k => f.2.getD k ("", "", "", false)), f.2.length) := by
          unfold zCl
          rw [List.getElem?_map, h1]
          rfl
        have e := Option.some.inj (hq.symm.trans hcl)
        simp only [Prod.mk.injEq] at e
        obtain ⟨rfl, rfl, rfl⟩ := e
        obtain ⟨cC, iS, h⟩ := u_known (n := f.2.length) hT (zU hq).1 (hT _ (zhas_mem hd.1.1.1.1))
        exact ⟨(cC, iS), fun q' hq' => by cases hq'; exact h⟩
      · cases hd
  obtain ⟨kn, hkn⟩ := Classical.skolem.mp hKn
  have hS := zS_all
  simp only [Bool.and_eq_true] at hS
  obtain ⟨cI, i1, i2⟩ := z_arr (hT _ (zhas_mem hS.1.1.1.1.1.1.1.1.1))
  obtain ⟨cJ, j1, j2⟩ := z_arr (hT _ (zhas_mem hS.1.1.1.1.1.1.1.1.2))
  obtain ⟨cZ, z1, z2⟩ := z_arr (hT _ (zhas_mem hS.1.1.1.1.1.1.1.2))
  refine ⟨zex b fv sp, fun k => if k = 0 then cI else if k = 1 then cJ else cZ, (fun c => (kn c).1, fun c => (kn c).2), fun i => ?_, rfl, ⟨fun c q hq => hkn c q hq, fun k q hk => ?_⟩, ?_, hz0, ?_, hz2, hz3, fun q hq => ?_, fun w hw => ?_, fun q hq => ?_, Nat.le_refl _⟩
  · unfold zex
    split
    · exact Or.inr ⟨_, rfl⟩
    · split
      · exact hfv
      · split
        · exact Or.inr ⟨_, rfl⟩
        · exact Or.inr ⟨_, rfl⟩
  · match k, hk with
    | 0, hk => cases hk; exact ⟨i2, i1⟩
    | 1, hk => cases hk; exact ⟨j2, j1⟩
    | 2, hk => cases hk; exact ⟨z2, z1⟩
    | k + 3, hk => simp [z_tys] at hk
  · intro i q hi
    unfold zE at hi
    cases i with
    | zero =>
      simp only [List.getElem?_cons_zero, Option.some.injEq] at hi
      subst hi
      refine ⟨b, rfl, ?_⟩
      obtain ⟨scr, g1, g2, g3, g4, g5⟩ := hX
      exact ⟨scr, g1, g2, g3, Nat.le_of_eq g4.symm, by rw [g4], g5, hA b hbl⟩
    | succ k =>
      simp only [List.getElem?_cons_succ] at hi
      obtain ⟨j, bs, hj, hcase⟩ := zEs_of zTx 0 k q hi
      have hjl : j < 18 := by
        have := (List.getElem?_eq_some_iff.mp hj).1
        have h9 := zTx_len
        omega
      obtain ⟨s1, s2, s3, s4⟩ := (hsp j).2 hjl
      rcases hcase with ⟨rfl, rfl⟩ | ⟨rfl, rfl⟩
      · refine ⟨(sp j).1, (sp j).2, ?_, ?_, s1, s2, s3⟩
        · exact zex_odd (by omega)
        · have e9 : (UInt32.ofNat (2 * (0 + j) + 2)).toNat = 2 * j + 2 := by
            rw [UInt32.toNat_ofNat']
            omega
          rw [e9]
          exact zex_even (by omega)
      · exact ⟨(sp j).2, zex_even (by omega), s4 bs hj⟩
  · exact hz1
  · obtain ⟨i, hi⟩ := List.getElem?_of_mem hq
    have hlt : i < 29 := by
      have := (List.getElem?_eq_some_iff.mp hi).1
      have h9 := zSx_len
      omega
    obtain ⟨q', h1, h2, h3, h4⟩ := (hsp i).1 hlt
    rw [hi] at h1
    cases h1
    refine ⟨(sp i).1, ?_, vk_R.of h4 h2⟩
    rw [h3]
    exact zex_odd hlt
  · obtain ⟨h1, h2⟩ := zWb_all
    obtain ⟨i, hi⟩ := List.getElem?_of_mem hw
    have hlt := (List.getElem?_eq_some_iff.mp hi).1
    have hz : (zWb.zip zWbp)[i]? = some (w, zWbp[i]'(by omega)) := by
      rw [List.getElem?_zip_eq_some]
      exact ⟨hi, List.getElem?_eq_getElem _⟩
    have hc := List.all_eq_true.mp h1 _ (List.mem_of_getElem? hz)
    simp only [Bool.and_eq_true, decide_eq_true_eq] at hc
    exact ⟨hc.2, va_Nw.of (z_wb_on hc.2) (hts _ (zword_mem hc.1))⟩
  · unfold zNc at hq
    simp only [List.mem_cons, List.not_mem_nil, or_false] at hq
    rcases hq with rfl | rfl
    · exact va_Nc.of (hs _ n4)
    · exact va_Nc.of (hs _ n5)
/-- WHAT IS LEFT: on every script of at most N ints the small machine's run of the law ends with 1, within the room -/
def z_Pure (N : Nat) : Prop := ∀ (L : Nat) (xs : Nat → Int32), L ≤ N → ∃ (n : Nat) (h' : zH), zrun zP zCd (zE L xs) n 100 345 0 (zent 7 [.float 0]) [] ([], 0) = some (.inl (some (.int 1)), h') ∧ zcn h' ≤ 601024 ∧ zsn h' ≤ 7293034
set_option maxHeartbeats 8000000 in
theorem z_start {p : Program} {e : Env} {s : State} {m : MethodId} {below : List Frame} {meth : Method} {c : Code} (l : Launch) (hflags : l.flags = flags0) {b L N : Nat} {xs : Nat → Int32} (hN : N ≤ 3072) (hL : L ≤ N) (hpure : z_Pure N)
    (hx : p.tables.exec = Jvm.exec) (hb : c.code = code) (hr : meth.sig.returnType = ret) (hml : c.maxLocals = 7) (hown : s.vm.findClass "TemperDownsLaw" = some m.cls) (hts : ∀ w ∈ zWs, w.before #[Value.ref b] s = true) (hX : va_X b L xs s s.heap) (hbl : b < s.heap.size) (hlocks : meth.locks = false) (hgv : (Jvm.Cond.and given_1 narrow_1).before #[Value.ref b] s = true) (hnm : meth.name = "law") (htab : c.exceptionTable.toList = []) :
    W p l e room_1 s m #[Value.ref b] below meth c s.heap [] 0 0 (fun t => ∃ o, t.status = .running ∧ Ended t below o ∧ o = .returned (some (.int 1)) ∧ Framed s o t [] 601024 7293034) (entryFrame m ([Value.ref b] : List Value).toArray 7) := by
  obtain ⟨n, h', hrun, hc, hsl⟩ := hpure L xs hL
  obtain ⟨ex, cA, D, hex, hex0, hWd⟩ := z_world hts hX hbl (by omega) hgv
  have hst : l.stackTraces = false := by
    unfold Launch.stackTraces
    rw [hflags]
    decide +kernel
  have hmain := z_main (l := l) (b := s.heap.size) (ex := ex) (cA := cA) (D := D) (E := zE L xs) hst hex z_ok zTg zCl100 n 100 345 (zk345, 7, ret, []) 0 (zent 7 [.float 0]) [] ([], 0) _ h' zP_law hrun p e s m #[Value.ref b] below meth c
    ⟨hx, by rw [hb]; rfl, hml, hr, hown, fun w hw => hts w (List.mem_filter.mp hw).1, hnm, hlocks, by rw [htab, zHH_law]; rfl⟩ hWd s.heap [] 0 0 _ ([], 0) (z_entry (fun v hv => by
      simp only [List.mem_cons, List.not_mem_nil, or_false] at hv
      subst hv
      show (ex 0).category = 1
      rw [hex0]
      rfl) (by decide)) (fun _ => z_ent1 (fun v hv => by
      simp only [List.mem_cons, List.not_mem_nil, or_false] at hv
      subst hv
      rfl)) (fun k q hk => by simp [z_ws] at hk) va_S.rf (zle_rfl _) (fun _ => rfl) rfl rfl
  have hargs : ([.float 0] : List Value).map (z_v s.heap.size ex) = [Value.ref b] := by
    show [ex 0] = _
    rw [hex0]
  rw [hargs] at hmain
  rw [lg_entry_eq]
  intro T hT X
  have hroom : s.hasRoom e.platform (z_room 100 (zcn h' - zcn ([], 0)) (zsn h' - zsn ([], 0))) = true := by
    refine z_hasRoom X.room ?_ ?_ ?_ ?_
    · show 100 ≤ 2048
      decide
    · show 64 * 100 ≤ 84000
      decide
    · show zcn h' - zcn ([], 0) ≤ 601024
      omega
    · show zsn h' - zsn ([], 0) ≤ 7293034
      omega
  obtain ⟨t, a1, o, b1, b2, b3⟩ := hmain T hT { X with room := hroom }
  rcases b3 with ⟨⟨⟨v, hv, hov⟩, hEnd⟩, Ls, hFE, hLs⟩ | ⟨q, hq, E9, ce, L9, ⟨⟨x9, hx9, -⟩, -⟩, -⟩
  · cases hv
    refine ⟨t, a1, o, b1, b2, hov, ⟨_, hov⟩, hFE.2.1, ?_⟩
    refine State.sameButNew.weaken hFE.2.2 (fun x hx9 hlt => ?_) (by omega) (by omega)
    exact absurd hlt (Nat.not_lt.mpr (hLs x hx9))
  · cases hx9
