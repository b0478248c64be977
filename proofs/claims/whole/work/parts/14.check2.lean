/-- the words of methods: static, virtual, constructor, the law -/
noncomputable def zmc (M : Nat) : Option (Nat × Nat × Nat × Nat × Nat × Nat) := match znth zMc (M / 16) with
  | some r => znth r (M % 16)
  | none => none
/-- the word of its code -/
noncomputable def zckW (M : Nat) (mt : zM) : Bool := match zword (zYr M).2.2.2.1 with
  | some (.code y b n r) => decide (y = zY M) && decide (n = mt.2.1) && decide (r = mt.2.2.1) && decide (zHH M = []) && goodWord (.code y b n r)
  | some (.codeWith y b n r hh) => decide (y = zY M) && decide (n = mt.2.1) && decide (r = mt.2.2.1) && decide (zHH M = hh) && decide (hh ≠ []) && goodWord (.codeWith y b n r hh)
  | _ => false
theorem zW_ok {M : Nat} {mt : zM} (h : zckW M mt = true) : z_cw zY zB zHH M mt ∈ zTs := by
  unfold zckW at h
  split at h
  · rename_i y b n r hw
    simp only [Bool.and_eq_true, decide_eq_true_eq] at h
    obtain ⟨⟨⟨⟨rfl, rfl⟩, rfl⟩, h4⟩, h5⟩ := h
    have hb : zB M = b := by unfold zB; rw [hw]
    have : z_cw zY zB zHH M mt = .code (zY M) b mt.2.1 mt.2.2.1 := by unfold z_cw; rw [h4, hb]
    rw [this]
    exact List.mem_filter.mpr ⟨zword_mem hw, h5⟩
  · rename_i y b n r hh hw
    simp only [Bool.and_eq_true, decide_eq_true_eq] at h
    obtain ⟨⟨⟨⟨⟨rfl, rfl⟩, rfl⟩, h4⟩, h6⟩, h5⟩ := h
    have hb : zB M = b := by unfold zB; rw [hw]
    have : z_cw zY zB zHH M mt = .codeWith (zY M) b mt.2.1 mt.2.2.1 hh := by
      unfold z_cw
      rw [h4, hb]
      cases hh with
      | nil => exact absurd rfl h6
      | cons q t => rfl
    rw [this]
    exact List.mem_filter.mpr ⟨zword_mem hw, h5⟩
  · cases h
noncomputable def zckY (M : Nat) : Bool := match zP M, zmc M with
  | some mt, some q => zckW M mt && zhas q.2.2.1 (.initialized (zY M).cls) && plainName (zY M).cls && decide ((zY M).cls ≠ "java/lang/invoke/MethodHandle") && decide ((zY M).cls ≠ "java/lang/invoke/VarHandle") && decide ((parseMethodDescriptor (zY M).desc).map (fun d => d.parameters.length) = some q.2.2.2.2.2) && decide (mt.2.1 ≤ 40) &&
      (match q.1 with
      | 0 => zhas q.2.2.2.1 (.static (zY M))
      | 1 => zhas q.2.2.2.1 (.instanceMethod (zY M)) && zhas q.2.2.2.2.1 (.selects (zY M).cls (zY M) (zY M)) && decide (zHH M = [])
      | 2 => zhas q.2.2.2.1 (.instanceMethod (zY M)) && decide ((zY M).name = "<init>") && decide (mt.2.2.1 = none) && decide (zHH M = [])
      | 3 => true
      | _ => false)
  | _, _ => false
noncomputable def zckYc (c n : Nat) : Bool := (List.range n).all (fun i => zckY (16 * c + i))
theorem zY_all0 : zckYc 0 16 = true := by decide +kernel
theorem zY_all1 : zckYc 1 16 = true := by decide +kernel
theorem zY_all2 : zckYc 2 16 = true := by decide +kernel
theorem zY_all3 : zckYc 3 16 = true := by decide +kernel
theorem zY_all4 : zckYc 4 16 = true := by decide +kernel
theorem zY_all5 : zckYc 5 16 = true := by decide +kernel
theorem zY_all6 : zckYc 6 16 = true := by decide +kernel
theorem zY_all7 : zckYc 7 16 = true := by decide +kernel
theorem zY_all8 : zckYc 8 16 = true := by decide +kernel
theorem zY_all9 : zckYc 9 16 = true := by decide +kernel
theorem zY_all10 : zckYc 10 16 = true := by decide +kernel
theorem zY_all11 : zckYc 11 16 = true := by decide +kernel
theorem zY_all12 : zckYc 12 16 = true := by decide +kernel
theorem zY_all13 : zckYc 13 16 = true := by decide +kernel
theorem zY_all14 : zckYc 14 16 = true := by decide +kernel
theorem zY_all15 : zckYc 15 16 = true := by decide +kernel
theorem zY_all16 : zckYc 16 16 = true := by decide +kernel
theorem zY_all17 : zckYc 17 16 = true := by decide +kernel
theorem zY_all18 : zckYc 18 16 = true := by decide +kernel
theorem zY_all19 : zckYc 19 16 = true := by decide +kernel
theorem zY_all20 : zckYc 20 16 = true := by decide +kernel
theorem zY_all21 : zckYc 21 10 = true := by decide +kernel
theorem zP_lt {M : Nat} {mt : zM} (h : zP M = some mt) : M < 346 := by
  have hl : zMl.length = 22 := by decide +kernel
  have h21 : zMl[21]?.map List.length = some 10 := by decide +kernel
  unfold zP at h
  split at h
  · rename_i r hr
    have h1 := (List.getElem?_eq_some_iff.mp hr).1
    have h2 := (List.getElem?_eq_some_iff.mp h).1
    by_cases hq : M / 16 = 21
    · rw [hq] at hr
      rw [hr] at h21
      simp only [Option.map, Option.some.injEq] at h21
      omega
    · omega
  · cases h
theorem zY_of {c n M : Nat} (h : zckYc c n = true) (h1 : M / 16 = c) (h2 : M % 16 < n) : zckY M = true := by
  have h3 := List.all_eq_true.mp h (M % 16) (List.mem_range.mpr h2)
  rw [show 16 * c + M % 16 = M by omega] at h3
  exact h3
theorem zY_ok {M : Nat} {mt : zM} (h : zP M = some mt) : zckY M = true := by
  have hM := zP_lt h
  have hc : M / 16 < 22 := by omega
  rcases h0 : M / 16 with _ | _ | _ | _ | _ | _ | _ | _ | _ | _ | _ | _ | _ | _ | _ | _ | _ | _ | _ | _ | _ | _ | k
  · exact zY_of zY_all0 h0 (by omega)
  · exact zY_of zY_all1 h0 (by omega)
  · exact zY_of zY_all2 h0 (by omega)
  · exact zY_of zY_all3 h0 (by omega)
  · exact zY_of zY_all4 h0 (by omega)
  · exact zY_of zY_all5 h0 (by omega)
  · exact zY_of zY_all6 h0 (by omega)
  · exact zY_of zY_all7 h0 (by omega)
  · exact zY_of zY_all8 h0 (by omega)
  · exact zY_of zY_all9 h0 (by omega)
  · exact zY_of zY_all10 h0 (by omega)
  · exact zY_of zY_all11 h0 (by omega)
  · exact zY_of zY_all12 h0 (by omega)
  · exact zY_of zY_all13 h0 (by omega)
  · exact zY_of zY_all14 h0 (by omega)
  · exact zY_of zY_all15 h0 (by omega)
  · exact zY_of zY_all16 h0 (by omega)
  · exact zY_of zY_all17 h0 (by omega)
  · exact zY_of zY_all18 h0 (by omega)
  · exact zY_of zY_all19 h0 (by omega)
  · exact zY_of zY_all20 h0 (by omega)
  · exact zY_of zY_all21 h0 (by omega)
  · omega
/-- the links of methods -/
noncomputable def zckL (q : Nat × Nat × Nat × Nat × Nat) : Bool := match q.2.2.2.2 with
  | 0 => zhas q.2.2.2.1 (.methodLink (zcl q.1) q.2.1 (zY q.2.2.1))
  | _ => match znth zWb q.2.2.2.1 with
    | some (.methodLinkNest a i y h) => decide (a = zcl q.1) && decide (i = q.2.1) && decide (y = zY q.2.2.1)
    | _ => false
theorem zL_all0 : zMk0.all zckL = true := by decide +kernel
theorem zL_all1 : zMk1.all zckL = true := by decide +kernel
theorem zL_all2 : zMk2.all zckL = true := by decide +kernel
theorem zL_all3 : zMk3.all zckL = true := by decide +kernel
theorem zL_all4 : zMk4.all zckL = true := by decide +kernel
theorem zL_all5 : zMk5.all zckL = true := by decide +kernel
theorem zL_all6 : zMk6.all zckL = true := by decide +kernel
theorem zL_all7 : zMk7.all zckL = true := by decide +kernel
theorem zL_all8 : zMk8.all zckL = true := by decide +kernel
theorem zL_all9 : zMk9.all zckL = true := by decide +kernel
theorem zL_all10 : zMk10.all zckL = true := by decide +kernel
theorem zL_all : zMk.all zckL = true := zall_app zL_all0 (zall_app zL_all1 (zall_app zL_all2 (zall_app zL_all3 (zall_app zL_all4 (zall_app zL_all5 (zall_app zL_all6 (zall_app zL_all7 (zall_app zL_all8 (zall_app zL_all9 (zL_all10))))))))))
theorem zL_ok {oc idx M pos nst : Nat} (h : (oc, idx, M, pos, nst) ∈ zMk) : (nst = 0 ∧ Cond.methodLink (zcl oc) idx (zY M) ∈ zTs) ∨ ∃ host, Cond.methodLinkNest (zcl oc) idx (zY M) host ∈ zWb := by
  have hc := List.all_eq_true.mp zL_all _ h
  unfold zckL at hc
  split at hc
  · rename_i h1
    exact Or.inl ⟨h1, zhas_mem hc⟩
  · split at hc
    · rename_i a i y hst hw
      simp only [Bool.and_eq_true, decide_eq_true_eq] at hc
      obtain ⟨⟨rfl, rfl⟩, rfl⟩ := hc
      exact Or.inr ⟨hst, znth_mem hw⟩
    · cases hc
theorem zS_all : zhas (zSp.getD 0 0) (.arrayClass .int) && zhas (zSp.getD 1 0) (.arrayClass .long) && zhas (zSp.getD 2 0) (.arrayClass .boolean) && zhas (zSp.getD 3 0) (.native arraycopyName) && zhas (zSp.getD 4 0) (.static arraycopyName) && zhas (zSp.getD 5 0) (.initialized "java/lang/System") && zhas (zSp.getD 6 0) (.instanceMethod Lib.objectInit) && zhas (zSp.getD 7 0) (.code Lib.objectInit ⟨#[0xb1]⟩ 1 none) && zhas (zSp.getD 8 0) (.initialized "java/util/NoSuchElementException") && zhas (zSp.getD 9 0) (.initialized "java/lang/IllegalArgumentException") = true := by decide +kernel
theorem zMa_all : zhas (zSp.getD 10 0) (.initialized "java/lang/Math") && zhas (zSp.getD 11 0) (.static Lib.Math.min.name) && zhas (zSp.getD 12 0) (.code Lib.Math.min.name Lib.Math.min.code 2 (some .int)) && zhas (zSp.getD 13 0) (.static Lib.Math.max.name) && zhas (zSp.getD 14 0) (.code Lib.Math.max.name Lib.Math.max.code 2 (some .int)) = true := by decide +kernel
theorem zH_all : zHk.all (fun q => zhas q.2.2.2 (.methodLink (zcl q.1) q.2.1 (bif Nat.beq q.2.2.1 0 then Lib.Math.min.name else Lib.Math.max.name))) = true := by decide +kernel
theorem zO_all : zOk.all (fun q => zhas q.2.2 (.methodLink (zcl q.1) q.2.1 Lib.objectInit)) = true := by decide +kernel
theorem zA_all : zAk.all (fun q => zhas q.2.2 (.methodLink (zcl q.1) q.2.1 arraycopyName)) = true := by decide +kernel
/-- the words of the two exceptions -/
noncomputable def zXw (r1 : Nat) : List Cond := (z_own "TemperDowns" (zXi.getD r1 0) (zEN r1) "java/lang/RuntimeException" (zXb.getD r1 (⟨#[]⟩, 0)).2 (zXb.getD r1 (⟨#[]⟩, 0)).1 ["java/lang/Exception"]).filter vx_no
theorem zX_all0 : (zXw 0).all (fun w => (goodWord w && decide (w ∈ zWs)) || decide (w ∈ zWb)) = true := by decide +kernel
theorem zX_all1 : (zXw 1).all (fun w => (goodWord w && decide (w ∈ zWs)) || decide (w ∈ zWb)) = true := by decide +kernel
theorem zX_ok {r1 : Nat} (h : r1 < 2) : ∀ w ∈ zXw r1, w ∈ zTs ∨ w ∈ zWb := by
  intro w hw
  have h1 : (goodWord w && decide (w ∈ zWs) || decide (w ∈ zWb)) = true := by
    have : r1 = 0 ∨ r1 = 1 := by omega
    rcases this with rfl | rfl
    · exact List.all_eq_true.mp zX_all0 w hw
    · exact List.all_eq_true.mp zX_all1 w hw
  simp only [Bool.or_eq_true, Bool.and_eq_true, decide_eq_true_eq] at h1
  rcases h1 with ⟨g1, g2⟩ | g
  · exact Or.inl (List.mem_filter.mpr ⟨g2, g1⟩)
  · exact Or.inr g
theorem zX_dec : (List.range 2).all (fun r1 => decide (decode (zXb.getD r1 (⟨#[]⟩, 0)).1 0 = .ok (.aload_n 0, 1)) && decide (decode (zXb.getD r1 (⟨#[]⟩, 0)).1 1 = .ok (.aload_n 1, 1)) && decide (decode (zXb.getD r1 (⟨#[]⟩, 0)).1 2 = .ok (.invokespecial (zXb.getD r1 (⟨#[]⟩, 0)).2, 3)) && decide (decode (zXb.getD r1 (⟨#[]⟩, 0)).1 5 = .ok (.return_, 1)) && Bundle.fit (zEN r1)) = true := by decide +kernel
