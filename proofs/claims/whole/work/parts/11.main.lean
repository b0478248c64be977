section ZW2
variable {P : Nat → Option zM} {Cd : List (List Value)} {E : zX} {SX : List (String × Nat × String × Nat)} {WB : List Cond} {NC : List (String × String)} {fm : Nat} {cl : List vw_C} {Ts : List Cond} {Y : Nat → MethodName} {B : Nat → ByteArray} {HH : Nat → List (Nat × Nat × Nat × Nat)} {l : Launch} {b : Nat} {ex : Nat → Value} {cA : Nat → ClassId} {D : va_G}
theorem z_fr {t : FieldType} {x : Int32} (h : zfr (some t) x = true) : narrow t (.int x) = .int x := by
  unfold zfr at h
  split at h
  · rename_i heq; cases heq; rfl
  · rename_i heq
    cases heq
    simp only [Bool.or_eq_true, beq_iff_eq] at h
    rcases h with rfl | rfl <;> rfl
  · rename_i heq
    cases heq
    simp only [beq_iff_eq] at h
    show Value.int x.toInt8.toInt32 = _
    rw [h]
  · rename_i heq
    cases heq
    simp only [beq_iff_eq] at h
    show Value.int x.toUInt32.toUInt16.toUInt32.toInt32 = _
    rw [h]
  · cases h
set_option maxHeartbeats 8000000 in
/-- a method's return -/
theorem z_return {p : Program} {e : Env} {R : Room} {s : State} {m : MethodId} {args : Array Value} {below : List Frame} {meth : Method} {c : Code} {H : Heap} {locs : List Loc} {cells slots mc ms pc : Nat} {ls : Array Slot} {st : List Value} {h h' h0 : zH} {o : zO} {t : Option FieldType} {cc : ByteArray}
    (hx : p.tables.exec = Jvm.exec) (hb : c.code = cc) (hrt : meth.sig.returnType = t) (hlocks : meth.locks = false) {ins : Instr} (hd : decode cc pc = .ok (ins, 1)) (hr : zret ins t st h = some (o, h'))
    (hP : va_P D cl (z_ws b ex cA h.1) H) (hS : va_S (z_A b) s.heap H locs) (hbs : b ≤ s.heap.size) (hle : zle h0 h) (hs0 : h0.2 = 0 → s.heap.size = b + h0.1.length) (hc0 : cells + zcn h0 = zcn h) (hmc : mc = cells) (hms : ms = slots) :
    W p l e R s m args below meth c H locs cells slots (vx_MQ below (z_Qc b ex cA D cl o h') (z_XC b ex cA D cl o h') args s mc ms (z_A b)) (F0 m pc ls (st.map (z_v b ex))) := by
  subst hmc; subst hms
  have hh := zm_ret hr
  subst hh
  refine z_size fun hsz => vx_ret ?_
  have hge := z_ge hP (Nat.le_trans hbs hS.1)
  have hend : ∀ u : State, u.heap = H → z_End b ex cA D cl h' s u := fun u hu => by
    refine ⟨by rw [hu]; exact hP, hS.F hu, by rw [hu]; exact hge, fun q => ?_⟩
    rw [hu]
    have h1 := hs0 (by have := hle.2.1; omega)
    simp only [zcn] at hc0
    have := hle.2.1
    omega
  unfold zret at hr
  split at hr
  · rename_i x
    obtain ⟨k1, k2⟩ := z_bif hr
    cases k2
    cases t with
    | none => cases k1
    | some ty => exact W.zret hx hb hrt (z_fr k1) (fun u hu hW => ⟨⟨some (.int x), rfl, rfl⟩, hend u hu⟩) hS.2.2 hd hlocks
  · rename_i x
    split at hr
    · cases hr
      exact W.lret hx hb hrt (fun u hu hW => ⟨⟨some (.long x), rfl, rfl⟩, hend u hu⟩) hS.2.2 hd hlocks
    · cases hr
  · rename_i a
    split at hr
    · rename_i nm
      cases hr
      exact W.aret hx hb hrt (Or.inl ⟨nm, rfl⟩) (Or.inr ⟨_, rfl⟩) (fun u hu hW => ⟨⟨some (.ref a), rfl, rfl⟩, hend u hu⟩) hS.2.2 hd hlocks
    · cases hr
  · split at hr
    · cases hr
      exact W.vret hx hb hrt (fun u hu hW => ⟨⟨none, rfl, rfl⟩, hend u hu⟩) hS.2.2 hd hlocks
    · cases hr
  · cases hr
theorem z_unset {L : zL} {k i : Nat} {v : Value} (h : (L.set k none)[i]? = some (some v)) : L[i]? = some (some v) := by
  by_cases hik : i = k
  · subst hik
    by_cases hl : i < L.length
    · rw [List.getElem?_set_self hl] at h
      cases h
    · rw [List.getElem?_eq_none (by rw [List.length_set]; omega)] at h
      cases h
  · rw [List.getElem?_set_ne (Ne.symm hik)] at h
    exact h
set_option maxHeartbeats 16000000 in
theorem z_main (hst : l.stackTraces = false) (hex : ∀ i, ex i = .null ∨ ∃ q, ex i = .ref q) (hok : ∀ M mt, P M = some mt → z_okM P Cd SX WB NC fm cl Ts Y B HH M mt) (hTg : ∀ w ∈ Ts, goodWord w = true) (hcl : cl[100]? = none) : ∀ n, z_Main P Cd E SX WB NC fm cl Ts Y B HH l b ex cA D n := by
  have hec : ∀ i, (ex i).category = 1 := fun i => by rcases hex i with q | ⟨a, q⟩ <;> rw [q] <;> rfl
  have hpl : ∀ M mt, P M = some mt → plainName (Y M).cls = true ∧ z_cw Y B HH M mt ∈ Ts := fun M mt hM => ⟨(hok M mt hM).1, (hok M mt hM).2.1⟩
  have hmx : ∀ M mt, P M = some mt → mt.2.1 ≤ 40 := fun M mt hM => (hok M mt hM).2.2.1
  intro n
  induction n with
  | zero => intro d M mt pc L st h o h' hM hr; cases hr
  | succ n ih =>
    intro d M mt pc L st h o h' hM hr p e s m args below meth c hF hWd H locs cells slots ls h0 hls hNL hP hS hle hs0 hc0 hs1
    have hF0 := hF
    obtain ⟨hx, hb, hml, hrt, hown, hts, hnm, hlocks, htab⟩ := hF
    obtain ⟨-, -, -, hnoH, hokH, hokI⟩ := hok M mt hM
    have hK := hWd.1
    have hE := hWd.2.1
    have hbs : b ≤ s.heap.size := hWd.2.2.2.2.2.2.2.2.2
    have hge := z_ge hP (Nat.le_trans hbs hS.1)
    have hmono := zm_run P Cd E (n + 1) d M pc L st h o h' hr
    -- going on
    have go : ∀ (pc1 : Nat) (L1 : zL) (st1 : List Value) (h1 : zH) (H1 : Heap) (locs1 : List Loc) (cells1 slots1 : Nat) (ls1 : Array Slot), zrun P Cd E n d M pc1 L1 st1 h1 = some (o, h') → z_ls b ex mt.2.1 L1 ls1 → ((Y M).name ≠ "spelled" → ∀ (i : Nat) (v : Value), L1[i]? = some (some v) → v.category = 1) → va_P D cl (z_ws b ex cA h1.1) H1 → va_S (z_A b) s.heap H1 locs1 → zle h0 h1 → cells1 + zcn h0 = zcn h1 → slots1 + zsn h0 = zsn h1 →
        W p l e (z_room d (zcn h' - zcn h0) (zsn h' - zsn h0)) s m args below meth c H1 locs1 cells1 slots1 (vx_MQ below (z_Qc b ex cA D cl o h') (z_XC b ex cA D cl o h') args s (zcn h' - zcn h0) (zsn h' - zsn h0) (z_A b)) (F0 m pc1 ls1 (st1.map (z_v b ex))) :=
      fun pc1 L1 st1 h1 H1 locs1 cells1 slots1 ls1 q1 q2 q8 q3 q4 q5 q6 q7 => ih d M mt pc1 L1 st1 h1 o h' hM q1 p e s m args below meth c hF0 hWd H1 locs1 cells1 slots1 ls1 h0 q2 q8 q3 q4 q5 hs0 q6 q7
    have goH : ∀ (pc1 : Nat) (st1 : List Value) (h1 : zH) (H1 : Heap) (locs1 : List Loc), zrun P Cd E n d M pc1 L st1 h1 = some (o, h') → h1.2 = h.2 → (zsm h1.1 = zsm h.1 ∧ h1.1.length = h.1.length) → va_P D cl (z_ws b ex cA h1.1) H1 → va_S (z_A b) s.heap H1 locs1 →
        W p l e (z_room d (zcn h' - zcn h0) (zsn h' - zsn h0)) s m args below meth c H1 locs1 cells slots (vx_MQ below (z_Qc b ex cA D cl o h') (z_XC b ex cA D cl o h') args s (zcn h' - zcn h0) (zsn h' - zsn h0) (z_A b)) (F0 m pc1 ls (st1.map (z_v b ex))) := by
      intro pc1 st1 h1 H1 locs1 q1 q2 q3 q4 q5
      obtain ⟨l1, l2, l3⟩ := hle
      simp only [zcn, zsn] at hc0 hs1
      exact go pc1 L st1 h1 H1 locs1 cells slots ls q1 hls hNL q4 q5 ⟨by omega, by omega, by omega⟩ (by simp only [zcn]; omega) (by simp only [zsn]; omega)
    have goS : ∀ (pc1 : Nat) (st1 : List Value), zrun P Cd E n d M pc1 L st1 h = some (o, h') →
        W p l e (z_room d (zcn h' - zcn h0) (zsn h' - zsn h0)) s m args below meth c H locs cells slots (vx_MQ below (z_Qc b ex cA D cl o h') (z_XC b ex cA D cl o h') args s (zcn h' - zcn h0) (zsn h' - zsn h0) (z_A b)) (F0 m pc1 ls (st1.map (z_v b ex))) :=
      fun pc1 st1 q1 => go pc1 L st1 h H locs cells slots ls q1 hls hNL hP hS hle hc0 hs1
    replace hr : zstep P Cd E (zrun P Cd E n) d M pc L st h = some (o, h') := hr
    unfold zstep at hr
    rw [hM] at hr
    simp only at hr
    split at hr
    · cases hr
    · rename_i j kd ins r1 r2 r3 hj
      have hI := hokI pc _ hj
      unfold z_okI at hI
      simp only at hI
      split at hr
      · exact zs_pure hx hb hI hr (fun st1 q => goS _ st1 q)
      · exact zs_load hx hb hls hI hr hex (fun v q => goS _ (v :: st) q)
      · exact zs_store hex hx hb hls hI.1 hr (fun st1 L1 ls1 q q2 => go _ L1 st1 h H locs cells slots ls1 q q2 (fun hn => absurd hI.2 hn) hP hS hle hc0 hs1)
      · exact zs_br hx hb hI.1 hr hI.2 (fun st1 q => goS _ st1 q) (fun st1 q => goS _ st1 q)
      · obtain ⟨len, hd⟩ := hI
        exact zs_sw hx hb hd hr (fun t st1 q => goS _ st1 q)
      · obtain ⟨idx, hd, hg⟩ := hI
        split at hr
        · rename_i v r
          exact zs_get hx hb hts hown hK hP hS hE hcl hg hd hr (fun w q => goS _ (w :: r) q)
        · cases hr
      · obtain ⟨idx, hd, hg⟩ := hI
        exact zs_put hx hb hts hown hK hP hS (by rw [hnm]; exact hg) hd hr (fun st1 h1 H1 locs1 q1 q2 q3 q4 q5 => goH _ st1 h1 H1 locs1 q1 q2 q3 q4 q5)
      · exact zs_ald hx hb hK hP hS hE hI hr (fun st1 q => goS _ st1 q)
      · exact zs_ast hx hb hK hP hS hI hr (fun st1 h1 H1 locs1 q1 q2 q3 q4 q5 => goH _ st1 h1 H1 locs1 q1 q2 q3 q4 q5)
      · exact zs_len hx hb hK hP hS hE hI hr (fun st1 q => goS _ st1 q)
      · obtain ⟨idx, hd, hg⟩ := hI
        split at hr
        · rename_i fs hfs
          obtain ⟨k1, k2⟩ := z_bif hr
          have k1 : h.2 = 0 := Nat.eq_of_beq_eq_true k1
          have hm := zm_run P Cd E n d M _ _ _ _ o h' k2
          obtain ⟨m1, m2, m3⟩ := hm
          obtain ⟨l1, l2, l3⟩ := hle
          simp only [List.length_append, List.length_cons, List.length_nil] at m1
          rw [zsm_app] at m3
          simp only [zsz] at m3
          refine z_size fun hsz => ?_
          have hsz2 : H.size = b + h.1.length := by
            have h1 := hs0 (by omega)
            simp only [zcn] at hc0
            omega
          simp only [zcn, zsn] at hc0 hs1
          refine zs_new hx hb hts hown hK hP hS hbs hsz2 (hg fs hfs) hd ?_ ?_ (fun H1 q1 q2 q3 => go _ L _ _ H1 locs (cells + 1) (slots + fs.length) ls k2 hls hNL q1 q2 ⟨?_, l2, ?_⟩ ?_ ?_)
          · show cells + 1 ≤ zcn h' - zcn h0
            simp only [zcn]; omega
          · show slots + fs.length ≤ zsn h' - zsn h0
            simp only [zsn]; omega
          · simp only [List.length_append, List.length_cons, List.length_nil]; omega
          · rw [zsm_app]; omega
          · simp only [zcn, List.length_append, List.length_cons, List.length_nil]; omega
          · simp only [zsn]; rw [zsm_app]; simp only [zsz]; omega
        · cases hr
      · refine z_size fun hsz => ?_
        obtain ⟨l1, l2, l3⟩ := hle
        have hc1 := hc0
        have hs2 := hs1
        simp only [zcn, zsn] at hc1 hs2
        refine zs_newa hx hb hts hK hP hS hbs (fun q => ?_) hI.2 hI.1 hr (fun st1 h1 q q2 q3 q4 => ?_) (fun st1 h1 H1 q q2 q3 q4 q5 q6 q7 => ?_)
        · have h1 := hs0 (by omega)
          omega
        · obtain ⟨m1, m2, m3⟩ := zm_run P Cd E n d M _ _ _ _ o h' q
          constructor
          · show cells + 1 ≤ zcn h' - zcn h0
            simp only [zcn]; omega
          · show slots + (zsm h1.1 - zsm h.1) ≤ zsn h' - zsn h0
            simp only [zsn]; omega
        · exact go _ L st1 h1 H1 locs _ _ ls q hls hNL q5 q6 ⟨by omega, by omega, by omega⟩ (by simp only [zcn]; omega) (by simp only [zsn]; omega)
      · split at hr
        · cases hr
        · rename_i d1
          split at hr
          · cases hr
          · rename_i ct hct
            obtain ⟨k0, hr⟩ := z_bif hr
            simp only [Bool.and_eq_true] at k0
            obtain ⟨⟨⟨⟨k1, k2⟩, k3⟩, k4⟩, k5⟩ := k0
            have k1 : r2 ≤ st.length := Nat.le_of_ble_eq_true k1
            have k2 : r2 ≤ ct.2.1 := Nat.le_of_ble_eq_true k2
            have k3 : zcat (st.take r2) = r2 := Nat.eq_of_beq_eq_true k3
            have k4 : zcat (st.drop r2) ≤ 8 := Nat.le_of_ble_eq_true k4
            refine z_size fun hsz => ?_
            have run : ∀ (o1 : zO) (h1 : zH), zrun P Cd E n d1 r1 0 (zent ct.2.1 (st.take r2).reverse) [] h = some (o1, h1) → zle h1 h' → _ := fun o1 h1 hc hl1 =>
              z_call (l := l) (e := e) (below := below) (slots := slots) (mc := zcn h' - zcn h0) (ms := zsn h' - zsn h0) ih hex hpl hmx hTg hcl hct (hI ct hct) k1 k2 k3 k4 k5 hc hF0 hWd hls.2.1 hP hS hle hs0 hc0 hsz (by
                obtain ⟨m1, m2, m3⟩ := zm_run P Cd E n d1 r1 _ _ _ _ o1 h1 hc
                obtain ⟨l1, l2, l3⟩ := hl1
                obtain ⟨g1, g2, g3⟩ := hle
                simp only [zcn, zsn] at hc0 hs1 ⊢
                omega)
            have cnt : ∀ (o1 : zO) (h1 : zH), zrun P Cd E n d1 r1 0 (zent ct.2.1 (st.take r2).reverse) [] h = some (o1, h1) → zle h0 h1 ∧ cells + (zcn h1 - zcn h) + zcn h0 = zcn h1 ∧ slots + (zsn h1 - zsn h) + zsn h0 = zsn h1 := fun o1 h1 hc => by
              have hz := zm_run P Cd E n d1 r1 _ _ _ _ o1 h1 hc
              refine ⟨hle.trans hz, ?_, ?_⟩
              · obtain ⟨m1, m2, m3⟩ := hz
                simp only [zcn] at hc0 ⊢
                omega
              · obtain ⟨m1, m2, m3⟩ := hz
                simp only [zsn] at hs1 ⊢
                omega
            split at hr
            · cases hr
            · rename_i v h1 hc
              have hl1 := zm_run P Cd E n (d1 + 1) M _ _ _ _ o h' hr
              have hR := run _ _ hc hl1
              obtain ⟨c1, c2, c3⟩ := cnt _ _ hc
              intro T hT X
              rcases hR T hT X with ⟨v9, st₀, t, T', L9, e0, X', hL, e1, e2, ⟨⟨v', hv', hov⟩, hEnd⟩, hgo⟩ | ⟨q, st₀, t, T', L9, En, ce, e0, X', hL, e1, e2, ⟨⟨x, hx9, -⟩, -⟩, -⟩
              · cases hv'
                cases hov
                obtain ⟨f1, f2, f3, f4⟩ := hEnd
                obtain ⟨-, -, hS'⟩ := vx_keep e0 e1 hS (fun _ _ q => q) (fun _ q => q) hL f2
                have key := go (pc + 3) L (v.toList ++ st.drop r2) h1 T'.heap (locs ++ L9) _ _ ls hr hls hNL (by rw [e1]; exact f1) hS' c1 c2 c3
                obtain ⟨t2, a1, b1⟩ := key T' rfl X'
                refine ⟨t2, hgo t2 ?_, b1⟩
                rw [List.map_append] at a1
                cases v <;> exact a1
              · cases hx9
            · rename_i x h1 hc
              obtain ⟨c1, c2, c3⟩ := cnt _ _ hc
              split at hr
              · rename_i hnone
                split at hr
                · rename_i hnil
                  cases hr
                  have hH := hnoH hnil
                  have hR := run _ _ hc (zle_rfl _)
                  intro T hT X
                  rcases hR T hT X with ⟨v9, st₀, t, T', L9, e0, X', hL, e1, e2, ⟨⟨v', hv', hov⟩, hEnd⟩, hgo⟩ | ⟨q, st₀, t, T', L9, En, ce, e0, X', hL, e1, e2, ⟨⟨x9, hx9, hEn⟩, hEnd⟩, hce, hcv, hcc, hgo⟩
                  · cases hv'
                  · cases hx9
                    obtain ⟨f1, f2, f3, f4⟩ := hEnd
                    obtain ⟨-, -, hS'⟩ := vx_keep e0 e1 hS (fun _ _ q => q) (fun _ q => q) hL f2
                    have hout : ∀ z ∈ c.exceptionTable.toList, covers z pc = false := by
                      rw [htab, hH]
                      intro z hz
                      cases hz
                    have key := vx_out (p := p) (l := l) (e := e) (R := z_room (d1 + 1) (zcn h' - zcn h0) (zsn h' - zsn h0)) (s := s) (m := m) (args := args) (below := below) (meth := meth) (c := c) (H := T'.heap) (locs := locs ++ L9) (cells := cells + (zcn h' - zcn h)) (slots := slots + (zsn h' - zsn h)) (ls := ls) (rest := (st.drop r2).map (z_v b ex)) (pc := pc) (E := En) (ce := ce) (q := q) (mc := zcn h' - zcn h0) (ms := zsn h' - zsn h0) (Qc := z_Qc b ex cA D cl (.inr x) h') (XC := z_XC b ex cA D cl (.inr x) h') (free := z_A b) hout hlocks (by rw [e1]; exact hce) hcv hcc
                      (fun u hu _ => ⟨⟨x, rfl, hEn⟩, by rw [hu, e1]; exact f1, hS'.F hu, by rw [hu, e1]; exact f3, fun q9 => by rw [hu, e1]; exact f4 q9⟩) hS'.2.2 (by omega) (by omega)
                    obtain ⟨t2, a1, b1⟩ := key T' rfl X'
                    exact ⟨t2, hgo.trans a1, b1⟩
                · cases hr
              · rename_i lo tg hhnd
                obtain ⟨z1, z2, z3⟩ := zst_spec hr
                have hl1 := zm_run P Cd E n (d1 + 1) M _ _ _ _ o h' z3
                have hR := run _ _ hc hl1
                obtain ⟨pre, yy, suf, name, t1, t2, t3, t4, t5, t6, t7⟩ := hokH pc x lo tg hhnd
                intro T hT X
                rcases hR T hT X with ⟨v9, st₀, t, T', L9, e0, X', hL, e1, e2, ⟨⟨v', hv', hov⟩, hEnd⟩, hgo⟩ | ⟨q, st₀, t, T', L9, En, ce, e0, X', hL, e1, e2, ⟨⟨x9, hx9, hEn⟩, hEnd⟩, hce, hcv, hcc, hgo⟩
                · cases hv'
                · cases hx9
                  subst hEn
                  obtain ⟨f1, f2, f3, f4⟩ := hEnd
                  obtain ⟨-, -, hS'⟩ := vx_keep e0 e1 hS (fun _ _ q => q) (fun _ q => q) hL f2
                  have hWBs := hWd.2.2.2.2.2.2.2.1
                  have hNC := hWd.2.2.2.2.2.2.2.2.1
                  have key := vx_catch (p := p) (l := l) (e := e) (R := z_room (d1 + 1) (zcn h' - zcn h0) (zsn h' - zsn h0)) (s := s) (m := m) (args := args) (below := below) (meth := meth) (c := c) (H := T'.heap) (locs := locs ++ L9) (cells := cells + (zcn h1 - zcn h)) (slots := slots + (zsn h1 - zsn h)) (ls := ls) (rest := (st.drop r2).map (z_v b ex)) (pc := pc) (E := zEN x) (ce := ce) (q := q) (Q := vx_MQ below (z_Qc b ex cA D cl o h') (z_XC b ex cA D cl o h') args s (zcn h' - zcn h0) (zsn h' - zsn h0) (z_A b)) hown pre yy suf (by rw [htab]; exact t1)
                    (fun z hz => by
                      rcases t2 z hz with g | ⟨g1, nm, g2, g3⟩
                      · exact Or.inl g
                      · exact Or.inr ⟨g1, nm, hts _ g2, hNC _ g3⟩) t3 t4 (hts _ t5) (va_Nw.use rfl (hWBs _ t6).2) (by rw [e1]; exact hce) hcv hcc ?_
                  · obtain ⟨t9, a1, b1⟩ := key T' rfl X'
                    exact ⟨t9, hgo.trans a1, b1⟩
                  · have hlo : lo < mt.2.1 := by rw [← hls.1]; exact z1
                    rcases t7 with ⟨kf, d7, rfl, rfl⟩ | ⟨d7, rfl⟩
                    · exact lv_astore_n hx hb d7 rfl hls.has hlo rfl (fun ls' hh => go _ (L.set _ none) [] h1 T'.heap (locs ++ L9) _ _ ls' z3 (z_st0 hex hls z1 z2 hh) (fun hn i v hi => hNL hn i v (z_unset hi)) (by rw [e1]; exact f1) hS' c1 c2 c3)
                    · exact lv_astore hx hb d7 hls.has hlo rfl (fun ls' hh => go _ (L.set lo none) [] h1 T'.heap (locs ++ L9) _ _ ls' z3 (z_st0 hex hls z1 z2 hh) (fun hn i v hi => hNL hn i v (z_unset hi)) (by rw [e1]; exact f1) hS' c1 c2 c3)
      · have hh := zm_ret hr
        subst hh
        exact z_return hx hb hrt hlocks hI hr hP hS hbs hle hs0 hc0 (by omega) (by omega)
      · split at hr
        · obtain ⟨k1, k2⟩ := z_bif hr
          have k1 : 8 ≤ d := Nat.le_of_ble_eq_true k1
          cases k2
          obtain ⟨hH, ik, is, ic, ix, bz, Yn, text, names, i, d0, d3, dd, q0, q1, q2, q5, f1, f2, f3, f4, w1, w2, hSX, hw⟩ := hI
          obtain ⟨sa, e1, hstr⟩ := hWd.2.2.2.2.2.2.1 _ hSX
          have hWBs := hWd.2.2.2.2.2.2.2.1
          have hout : ∀ k : Nat, ∀ z ∈ c.exceptionTable.toList, covers z k = false := by
            intro k
            rw [htab, hH]
            intro z hz
            cases hz
          obtain ⟨l1, l2, l3⟩ := hle
          have hc1 := hc0
          have hs2 := hs1
          simp only [zcn, zsn] at hc1 hs2
          have hat : ∀ w ∈ (z_own (Y M).cls ic (zEN r1) Yn ix bz names).filter vx_no, w.before args s = true := fun w hww => by
            rcases hw w hww with g | g
            · exact hts _ g
            · exact va_Nw.use (z_wb_on (hWBs _ g).1) (hWBs _ g).2
          have hot : ∀ w ∈ Cond.classLink (Y M).cls ik (zEN r1) :: Cond.initialized (zEN r1) :: (z_own (Y M).cls ic (zEN r1) Yn ix bz names).filter vx_no, vx_ot w = true := fun w hww => by
            rcases List.mem_cons.mp hww with rfl | hww
            · simp [vx_ot, hTg _ w1]
            · rcases List.mem_cons.mp hww with rfl | hww
              · simp [vx_ot, hTg _ w2]
              · rcases hw w hww with g | g
                · simp [vx_ot, hTg _ g]
                · simp [vx_ot, z_wb_on (hWBs _ g).1]
          have rm1 : names.length + 4 < (z_room d (zcn (h.1, h.2 + 1) - zcn h0) (zsn (h.1, h.2 + 1) - zsn h0)).frames := by
            show names.length + 4 < d
            omega
          have rm2 : ((([] : List Value).map fun v => v.category).sum) + (13 * (names.length + 2) + 43) ≤ (z_room d (zcn (h.1, h.2 + 1) - zcn h0) (zsn (h.1, h.2 + 1) - zsn h0)).locals := by
            show 0 + (13 * (names.length + 2) + 43) ≤ 64 * d
            omega
          have rm3 : cells + 1 ≤ (z_room d (zcn (h.1, h.2 + 1) - zcn h0) (zsn (h.1, h.2 + 1) - zsn h0)).cells := by
            show cells + 1 ≤ zcn (h.1, h.2 + 1) - zcn h0
            simp only [zcn]; omega
          have rm4 : slots + 6 ≤ (z_room d (zcn (h.1, h.2 + 1) - zcn h0) (zsn (h.1, h.2 + 1) - zsn h0)).slots := by
            show slots + 6 ≤ zsn (h.1, h.2 + 1) - zsn h0
            simp only [zsn]; omega
          have fin : ∀ (k : Nat) (q : Nat) (H1 : Heap) (ce : Cell), decode (B M) k = .ok (.athrow, 1) → H1[q]? = some ce → ce.vm = .none → s.vm.findClass (zEN r1) = some ce.cls → H.size ≤ H1.size → (∀ x : Nat, x < H.size → H1[x]? = H[x]?) → va_S (z_A b) s.heap H1 locs →
              W p l e (z_room d (zcn (h.1, h.2 + 1) - zcn h0) (zsn (h.1, h.2 + 1) - zsn h0)) s m args below meth c H1 locs (cells + 1) (slots + 6) (vx_MQ below (z_Qc b ex cA D cl (.inr r1) (h.1, h.2 + 1)) (z_XC b ex cA D cl (.inr r1) (h.1, h.2 + 1)) args s (zcn (h.1, h.2 + 1) - zcn h0) (zsn (h.1, h.2 + 1) - zsn h0) (z_A b)) (F0 m k ls [.ref q]) := by
            intro k q H1 ce d9 g1 g2 g3 g4 g5 g6
            refine vx_athrow hx hb d9 (vx_out (hout k) hlocks g1 g2 g3 (fun u hu _ => ⟨⟨r1, rfl, rfl⟩, ?_, g6.F hu, ?_, fun q9 => ?_⟩) g6.2.2 ?_ ?_)
            · rw [hu]
              exact hP.kept fun k x hk => g5 x.1 ((hP k x hk).lt)
            · rw [hu]
              show b + h.1.length ≤ H1.size
              omega
            · simp at q9
            · simp only [zcn]; omega
            · simp only [zsn]; omega
          rcases dd with ⟨d4, d6, d9⟩ | ⟨d4, d6, d9⟩
          · exact z_make (A := z_A b) (rest := []) hx hb hst q0 q1 q2 q5 hown f1 f2 f3 (hts _ w1) (hts _ w2) hstr hat hot hWd.2.2.2.2.1 hWd.2.2.2.2.2.1 hS (by rw [hls.2.1, hml]) d0 d3 d4 d6 (fun q hq => Nat.le_trans hbs hq) rm1 rm2 rm3 rm4 (fun q H1 ce g1 g2 g3 g4 g5 g6 => fin _ q H1 ce d9 g1 g2 g3 g4 g5 g6)
          · exact z_makeW (A := z_A b) (rest := []) hx hb hst q0 q1 q2 q5 hown f1 f2 f3 (hts _ w1) (hts _ w2) hstr hat hot hWd.2.2.2.2.1 hWd.2.2.2.2.2.1 hS (by rw [hls.2.1, hml]) d0 d3 d4 d6 (fun q hq => Nat.le_trans hbs hq) rm1 rm2 rm3 rm4 (fun q H1 ce g1 g2 g3 g4 g5 g6 => fin _ q H1 ce d9 g1 g2 g3 g4 g5 g6)
        · cases hr
      · obtain ⟨idx, hd, w1, w2, w3, w4⟩ := hI
        obtain ⟨k0, hr⟩ := z_bif hr
        simp only [Bool.and_eq_true] at k0
        have k1 : 1 ≤ d := Nat.le_of_ble_eq_true k0.1
        have k2 : zcat st ≤ 16 := Nat.le_of_ble_eq_true k0.2
        exact zs_cp hx hb (by rw [hml, hls.2.1]) hts hown hK hP hS w1 w2 w3 w4 hd k1 (by show 60 ≤ 64 * d; omega) hec k2 hr (fun st1 h1 H1 locs1 q1 q2 q3 q4 q5 => goH _ st1 h1 H1 locs1 q1 q2 q3 q4 q5)
      · obtain ⟨hd, idx, rfl | rfl, w⟩ := hI
        · exact lv_ldc hx hb hown (hts _ w) hd (goS _ (.int (Int32.ofNat r1) :: st) hr)
        · exact lv_ldcw hx hb hown (hts _ w) hd (goS _ (.int (Int32.ofNat r1) :: st) hr)
      · obtain ⟨idx, text, rfl, hd, hSX⟩ := hI
        obtain ⟨sa, e1, hstr⟩ := hWd.2.2.2.2.2.2.1 _ hSX
        have h2 := goS _ (.float (UInt32.ofNat r1) :: st) hr
        simp only [List.map_cons] at h2
        have e4 : z_v b ex (.float (UInt32.ofNat r1)) = .ref sa := e1
        rw [e4] at h2
        exact va_ldcS hx hb hown hstr hd h2
      · obtain ⟨idx, hd, ⟨rfl, w⟩ | ⟨hn, hf, w⟩⟩ := hI
        · exact va_gets hx hb hWd.2.2.1 hS hown (hts _ w) (fun _ q => q) hd (goS _ (.int 1 :: st) hr)
        · have e5 : Nat.beq r1 0 = false := z_nbeq hn
          rw [e5] at hr
          have h2 := goS _ (.float (UInt32.ofNat r2) :: st) hr
          simp only [List.map_cons] at h2
          have e4 : z_v b ex (.float (UInt32.ofNat r2)) = ex fm := by
            show ex (UInt32.ofNat r2).toNat = _
            rw [hf]
          rw [e4] at h2
          exact va_gets hx hb hWd.2.2.2.1 hS hown (hts _ w) (fun _ q => q) hd h2
      · obtain ⟨idx, hd, w1, w2, w3⟩ := hI
        split at hr
        · rename_i a r
          obtain ⟨k0, hr⟩ := z_bif hr
          simp only [Bool.and_eq_true] at k0
          have k1 : 1 ≤ d := Nat.le_of_ble_eq_true k0.1
          have k2 : zcat r ≤ 8 := Nat.le_of_ble_eq_true k0.2
          have hcr : ((r.map (z_v b ex)).map fun v => v.category).sum ≤ 8 := by
            have e1 : (r.map (z_v b ex)).map (fun v => v.category) = r.map (fun v => v.category) := by
              rw [List.map_map]
              exact List.map_congr_left fun v _ => z_v_cat hec v
            rw [e1]
            exact k2
          have hlr := lv_room (m := m) (pc := pc) (ls := ls) (rest := (Value.ref a :: r).map (z_v b ex)) hcr
          refine W.objInit hx hb hown (hts _ w1) (hts _ w2) (hts _ w3) rfl (by rw [hml]; exact hls.2.1) (a := b + a) (rest := r.map (z_v b ex)) rfl hd k1 (by show _ ≤ 64 * d; omega) (goS _ r hr)
        · cases hr
      · obtain ⟨idx, hd, w⟩ := hI
        exact lv_ldc2 hx hb hown (hts _ w) hd (goS _ (.long (Int64.ofNat r1) :: st) hr)
      · obtain ⟨idx, hd, w0, hI⟩ := hI
        split at hr
        · rename_i y x r
          obtain ⟨k0, hr⟩ := z_bif hr
          simp only [Bool.and_eq_true] at k0
          have k1 : 1 ≤ d := Nat.le_of_ble_eq_true k0.1
          have k2 : zcat r ≤ 8 := Nat.le_of_ble_eq_true k0.2
          have hcr : ((r.map (z_v b ex)).map fun v => v.category).sum + 13 ≤ (z_room d (zcn h' - zcn h0) (zsn h' - zsn h0)).locals := by
            have e1 : (r.map (z_v b ex)).map (fun v => v.category) = r.map (fun v => v.category) := by
              rw [List.map_map]
              exact List.map_congr_left fun v _ => z_v_cat hec v
            rw [e1]
            have k3 : (r.map (fun v => v.category)).sum ≤ 8 := k2
            show _ ≤ 64 * d
            omega
          have hc9 : cells ≤ (z_room d (zcn h' - zcn h0) (zsn h' - zsn h0)).cells := by
            obtain ⟨m1, m2, m3⟩ := hmono
            show cells ≤ zcn h' - zcn h0
            simp only [zcn] at hc0 ⊢
            omega
          have hs9 : slots ≤ (z_room d (zcn h' - zcn h0) (zsn h' - zsn h0)).slots := by
            obtain ⟨m1, m2, m3⟩ := hmono
            show slots ≤ zsn h' - zsn h0
            simp only [zsn] at hs1 ⊢
            omega
          rcases hI with ⟨rfl, w1, w2, w3⟩ | ⟨hn, w1, w2, w3⟩
          · exact va_mmin hx hb (by rw [hml, hls.2.1]) hown (hts _ w1) (hts _ w2) (hts _ w0) (hts _ w3) k1 hcr hc9 hs9 hd (goS _ (.int (if y < x then y else x) :: r) hr)
          · rw [z_nbeq hn] at hr
            exact va_mmax hx hb (by rw [hml, hls.2.1]) hown (hts _ w1) (hts _ w2) (hts _ w0) (hts _ w3) k1 hcr hc9 hs9 hd (goS _ (.int (if x < y then y else x) :: r) hr)
        · cases hr
      · exact zs_storeN hex hx hb hls (hNL hI.2) hI.1 hr (fun st1 L1 ls1 q q2 q3 => go _ L1 st1 h H locs cells slots ls1 q q2 (fun _ => q3) hP hS hle hc0 hs1)
      · cases hr
end ZW2
