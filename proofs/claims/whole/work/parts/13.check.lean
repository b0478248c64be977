/-! THE TABLES HOLD WHAT THE PROGRAM NEEDS: checked by program -/
noncomputable def zWs : List Cond := Jvm.Cond.code x code maxLocals ret :: lw_tbl
noncomputable def zTs : List Cond := zWs.filter goodWord
theorem znth_mem {α : Type} {a : α} : ∀ {l : List α} {i : Nat}, znth l i = some a → a ∈ l
  | [], _, h => by cases h
  | x :: r, 0, h => by cases h; exact List.mem_cons_self
  | x :: r, i + 1, h => List.mem_cons_of_mem _ (znth_mem (l := r) h)
theorem zsel_mem {w : Cond} {ys : List (MethodName × Nat)} {i : Nat} (h : (znth ys i).map (fun q => Cond.selects q.1.cls q.1 q.1) = some w) (hs : ∀ q ∈ ys, q ∈ lw_privs) : w ∈ zWs := by
  cases hq : znth ys i with
  | none => rw [hq] at h; cases h
  | some q =>
    rw [hq] at h
    cases h
    exact List.mem_cons_of_mem _ (List.mem_append_left _ (List.mem_map.mpr ⟨q, hs q (znth_mem hq), rfl⟩))
theorem ztab_mem {w : Cond} (h : w ∈ tables_1) : w ∈ zWs := List.mem_cons_of_mem _ (List.mem_append_right _ h)
theorem zword_mem {p : Nat} {w : Cond} (h : zword p = some w) : w ∈ zWs := by
  unfold zword zwt at h
  split at h
  · exact ztab_mem (List.mem_append_left _ (znth_mem h))
  · exact ztab_mem (List.mem_append_right _ (List.mem_append_left _ (znth_mem h)))
  · exact ztab_mem (List.mem_append_right _ (List.mem_append_right _ (List.mem_append_left _ (znth_mem h))))
  · exact ztab_mem (List.mem_append_right _ (List.mem_append_right _ (List.mem_append_right _ (List.mem_append_left _ (znth_mem h)))))
  · exact ztab_mem (List.mem_append_right _ (List.mem_append_right _ (List.mem_append_right _ (List.mem_append_right _ (List.mem_append_left _ (znth_mem h))))))
  · exact ztab_mem (List.mem_append_right _ (List.mem_append_right _ (List.mem_append_right _ (List.mem_append_right _ (List.mem_append_right _ (List.mem_append_left _ (znth_mem h)))))))
  · exact ztab_mem (List.mem_append_right _ (List.mem_append_right _ (List.mem_append_right _ (List.mem_append_right _ (List.mem_append_right _ (List.mem_append_right _ (List.mem_append_left _ (znth_mem h))))))))
  · exact ztab_mem (List.mem_append_right _ (List.mem_append_right _ (List.mem_append_right _ (List.mem_append_right _ (List.mem_append_right _ (List.mem_append_right _ (List.mem_append_right _ (List.mem_append_left _ (znth_mem h)))))))))
  · exact ztab_mem (List.mem_append_right _ (List.mem_append_right _ (List.mem_append_right _ (List.mem_append_right _ (List.mem_append_right _ (List.mem_append_right _ (List.mem_append_right _ (List.mem_append_right _ (List.mem_append_left _ (znth_mem h))))))))))
  · exact ztab_mem (List.mem_append_right _ (List.mem_append_right _ (List.mem_append_right _ (List.mem_append_right _ (List.mem_append_right _ (List.mem_append_right _ (List.mem_append_right _ (List.mem_append_right _ (List.mem_append_right _ (znth_mem h))))))))))
  · cases h; exact List.mem_cons_self
  · exact zsel_mem h (fun q hq => List.mem_append_left _ (hq))
  · exact zsel_mem h (fun q hq => List.mem_append_right _ (List.mem_append_left _ (hq)))
  · exact zsel_mem h (fun q hq => List.mem_append_right _ (List.mem_append_right _ (List.mem_append_left _ (hq))))
  · exact zsel_mem h (fun q hq => List.mem_append_right _ (List.mem_append_right _ (List.mem_append_right _ (List.mem_append_left _ (hq)))))
  · exact zsel_mem h (fun q hq => List.mem_append_right _ (List.mem_append_right _ (List.mem_append_right _ (List.mem_append_right _ (List.mem_append_left _ (hq))))))
  · exact zsel_mem h (fun q hq => List.mem_append_right _ (List.mem_append_right _ (List.mem_append_right _ (List.mem_append_right _ (List.mem_append_right _ (List.mem_append_left _ (hq)))))))
  · exact zsel_mem h (fun q hq => List.mem_append_right _ (List.mem_append_right _ (List.mem_append_right _ (List.mem_append_right _ (List.mem_append_right _ (List.mem_append_right _ (List.mem_append_left _ (hq))))))))
  · exact zsel_mem h (fun q hq => List.mem_append_right _ (List.mem_append_right _ (List.mem_append_right _ (List.mem_append_right _ (List.mem_append_right _ (List.mem_append_right _ (List.mem_append_right _ (hq))))))))
  · cases h
noncomputable def zhas (i : Nat) (w : Cond) : Bool := decide (zword i = some w) && goodWord w
theorem zhas_mem {i : Nat} {w : Cond} (h : zhas i w = true) : w ∈ zTs := by
  unfold zhas at h
  simp only [Bool.and_eq_true, decide_eq_true_eq] at h
  exact List.mem_filter.mpr ⟨zword_mem h.1, h.2⟩
theorem zTg : ∀ w ∈ zTs, goodWord w = true := fun w hw => (List.mem_filter.mp hw).2
noncomputable def zCl : List vw_C := zFl.map (fun q => (q.1, (fun k => q.2.getD k ("", "", "", false)), q.2.length))
def zcl (oc : Nat) : String := zCn.getD oc ""
noncomputable def zYr (M : Nat) : Nat × String × String × Nat × List (Nat × Nat × Nat × Nat) := match znth zYl (M / 16) with
  | some r => match znth r (M % 16) with
    | some q => q
    | none => (0, "", "", 0, [])
  | none => (0, "", "", 0, [])
noncomputable def zY (M : Nat) : MethodName := ⟨zcl (zYr M).1, (zYr M).2.1, (zYr M).2.2.1⟩
/-- a method's code, out of the tables -/
noncomputable def zB (M : Nat) : ByteArray := match zword (zYr M).2.2.2.1 with
  | some (.code _ b _ _) => b
  | some (.codeWith _ b _ _ _) => b
  | _ => ⟨#[]⟩
noncomputable def zHH (M : Nat) : List (Nat × Nat × Nat × Nat) := (zYr M).2.2.2.2
/-- a class's fields -/
noncomputable def zckU (ci : Nat) : Bool := match zFl[ci]?, zUp[ci]?, zTy[ci]? with
  | some q, some ps, some ty => decide (u_ws q.1 (fun k => q.2.getD k ("", "", "", false)) q.2.length = ps.filterMap zword) && (u_ws q.1 (fun k => q.2.getD k ("", "", "", false)) q.2.length).all goodWord && decide (q.2.map (fun f => parseFieldDescriptor f.2.2.1) = ty.map some) && decide ((q.2.map (fun f => f.2.1)).Nodup)
  | _, _, _ => false
theorem zU_all : (List.range 13).all zckU = true := by decide +kernel
noncomputable def ztyf (ci k : Nat) : FieldType := (zTy.getD ci []).getD k .int
theorem zU {ci : Nat} {C : String} {T : u_T} {N : Nat} (h : zCl[ci]? = some (C, T, N)) : (∀ w ∈ u_ws C T N, w ∈ zTs) ∧ (∀ k, k < N → parseFieldDescriptor (T k).2.2.1 = some (ztyf ci k)) ∧ (∀ a, a < N → ∀ b, b < N → a ≠ b → (T a).2.1 ≠ (T b).2.1) := by
  unfold zCl at h
  rw [List.getElem?_map] at h
  cases hq : zFl[ci]? with
  | none => rw [hq] at h; cases h
  | some q =>
    rw [hq] at h
    simp only [Option.map, Option.some.injEq, Prod.mk.injEq] at h
    obtain ⟨rfl, rfl, rfl⟩ := h
    have hlt : ci < 13 := by
      have h1 : zFl.length = 13 := by decide +kernel
      have := (List.getElem?_eq_some_iff.mp hq).1
      omega
    have hc := List.all_eq_true.mp zU_all ci (List.mem_range.mpr hlt)
    unfold zckU at hc
    rw [hq] at hc
    split at hc
    · rename_i q' ps ty h1 h2 h3
      cases h1
      simp only [Bool.and_eq_true, decide_eq_true_eq] at hc
      obtain ⟨⟨⟨c1, c2⟩, c3⟩, c4⟩ := hc
      refine ⟨fun w hw => ?_, fun k hk => ?_, fun a ha b hb hab he => ?_⟩
      · have hg := List.all_eq_true.mp c2 w hw
        rw [c1] at hw
        obtain ⟨i, -, hi⟩ := List.mem_filterMap.mp hw
        exact List.mem_filter.mpr ⟨zword_mem hi, hg⟩
      · have e1 : (q.2.map (fun f => parseFieldDescriptor f.2.2.1))[k]? = (ty.map some)[k]? := by rw [c3]
        rw [List.getElem?_map, List.getElem?_map, List.getElem?_eq_getElem hk] at e1
        cases ht : ty[k]? with
        | none => rw [ht] at e1; cases e1
        | some t =>
          rw [ht] at e1
          simp only [Option.map, Option.some.injEq] at e1
          simp only [List.getD_eq_getElem?_getD, List.getElem?_eq_getElem hk, Option.getD_some]
          rw [e1]
          simp only [ztyf, List.getD_eq_getElem?_getD, h3, Option.getD_some, ht]
      · have n1 : a < (q.2.map (fun f => f.2.1)).length := by rw [List.length_map]; exact ha
        have n2 : b < (q.2.map (fun f => f.2.1)).length := by rw [List.length_map]; exact hb
        have e1 : (q.2.map (fun f => f.2.1))[a] = (q.2.map (fun f => f.2.1))[b] := by
          simp only [List.getD_eq_getElem?_getD, List.getElem?_eq_getElem ha, List.getElem?_eq_getElem hb, Option.getD_some] at he
          simp only [List.getElem_map]
          exact he
        rcases Nat.lt_or_gt_of_ne hab with g | g
        · exact List.pairwise_iff_getElem.mp c4 a b n1 n2 g e1
        · exact List.pairwise_iff_getElem.mp c4 b a n2 n1 g e1.symm
    · cases hc
/-- the links of fields -/
noncomputable def zckF (q : Nat × Nat × Nat × Nat × Nat) : Bool :=
  bif Nat.beq q.2.2.1 100 then (bif Nat.beq q.2.2.2.1 0 then zhas q.2.2.2.2 (.fieldLink (zcl q.1) q.2.1 "java/lang/String" "value" "[B") else (Nat.beq q.2.2.2.1 1 && zhas q.2.2.2.2 (.fieldLink (zcl q.1) q.2.1 "java/lang/String" "coder" "B")))
  else match zFl[q.2.2.1]? with
    | some f => match f.2[q.2.2.2.1]? with
      | some t => zhas q.2.2.2.2 (.fieldLink (zcl q.1) q.2.1 t.1 t.2.1 t.2.2.1)
      | none => false
    | none => false
theorem zall_app {α : Type} {f : α → Bool} {a b : List α} (ha : a.all f = true) (hb : b.all f = true) : (a ++ b).all f = true := by
  rw [List.all_append, ha, hb]
  rfl
theorem zF_all0 : zFk0.all zckF = true := by decide +kernel
theorem zF_all1 : zFk1.all zckF = true := by decide +kernel
theorem zF_all2 : zFk2.all zckF = true := by decide +kernel
theorem zF_all3 : zFk3.all zckF = true := by decide +kernel
theorem zF_all4 : zFk4.all zckF = true := by decide +kernel
theorem zF_all5 : zFk5.all zckF = true := by decide +kernel
theorem zF_all : zFk.all zckF = true := zall_app zF_all0 (zall_app zF_all1 (zall_app zF_all2 (zall_app zF_all3 (zall_app zF_all4 (zF_all5)))))
theorem zG_ok {oc idx ci k pos : Nat} (h : (oc, idx, ci, k, pos) ∈ zFk) : z_okG zCl zTs (zcl oc) idx ci k := by
  have hc := List.all_eq_true.mp zF_all _ h
  unfold zckF at hc
  simp only at hc
  cases h1 : Nat.beq ci 100 with
  | true =>
    rw [h1] at hc
    simp only [cond_true] at hc
    have h1 := Nat.eq_of_beq_eq_true h1
    refine Or.inr ⟨h1, ?_⟩
    cases h2 : Nat.beq k 0 with
    | true => rw [h2] at hc; exact Or.inl ⟨Nat.eq_of_beq_eq_true h2, zhas_mem hc⟩
    | false =>
      rw [h2] at hc
      simp only [cond_false, Bool.and_eq_true] at hc
      exact Or.inr ⟨Nat.eq_of_beq_eq_true hc.1, zhas_mem hc.2⟩
  | false =>
    rw [h1] at hc
    simp only [cond_false] at hc
    split at hc
    · rename_i f hf
      split at hc
      · rename_i t ht
        have hcl : zCl[ci]? = some (f.1, (fun k => f.2.getD k ("", "", "", false)), f.2.length) := by
          unfold zCl
          rw [List.getElem?_map, hf]
          rfl
        have hk := (List.getElem?_eq_some_iff.mp ht).1
        refine Or.inl ⟨_, _, _, hcl, hk, (zU hcl).1, ?_⟩
        have e1 : f.2.getD k ("", "", "", false) = t := by simp only [List.getD_eq_getElem?_getD, ht, Option.getD_some]
        simp only [e1]
        exact zhas_mem hc
      · cases hc
    · cases hc
/-- a put into a field: its kind, and whether it may be written there -/
noncomputable def zckP (oc : Nat) (nm : String) (ci k t : Nat) : Bool := match zFl[ci]? with
  | some f => match f.2[k]? with
    | some q => z_kd t (ztyf ci k) && (!q.2.2.2 || (decide (nm = "<init>") && decide (q.1 = zcl oc)))
    | none => false
  | none => false
theorem zP_ok {oc idx ci k pos t : Nat} {nm : String} (h : (oc, idx, ci, k, pos) ∈ zFk) (hc : zckP oc nm ci k t = true) : z_okP zCl zTs (zcl oc) nm idx ci k t := by
  unfold zckP at hc
  split at hc
  · rename_i f hf
    split at hc
    · rename_i q hq
      have hcl : zCl[ci]? = some (f.1, (fun k => f.2.getD k ("", "", "", false)), f.2.length) := by
        unfold zCl
        rw [List.getElem?_map, hf]
        rfl
      have hk := (List.getElem?_eq_some_iff.mp hq).1
      have e1 : f.2.getD k ("", "", "", false) = q := by simp only [List.getD_eq_getElem?_getD, hq, Option.getD_some]
      obtain ⟨u1, u2, u3⟩ := zU hcl
      simp only [Bool.and_eq_true, Bool.or_eq_true, Bool.not_eq_true', decide_eq_true_eq] at hc
      rcases zG_ok h with ⟨C, T, N, c1, c2, c3, c4⟩ | ⟨c1, -⟩
      · have e2 := Option.some.inj (c1.symm.trans hcl)
        simp only [Prod.mk.injEq] at e2
        obtain ⟨rfl, rfl, rfl⟩ := e2
        refine ⟨_, _, _, ztyf ci, hcl, hk, u1, c4, u2, u3, hc.1, ?_⟩
        simp only [e1]
        rcases hc.2 with g | ⟨g1, g2⟩
        · exact Or.inl g
        · cases hb : q.2.2.2 with
          | false => exact Or.inl rfl
          | true => exact Or.inr ⟨rfl, g1, g2⟩
      · exfalso
        subst c1
        have : zFl[100]? = none := by decide +kernel
        rw [this] at hf
        cases hf
    · cases hc
  · cases hc
/-- the links of classes and constants -/
noncomputable def zckN (q : Nat × Nat × Nat × Nat × Nat) : Bool := match q.2.2.1 with
  | 200 => zhas q.2.2.2.1 (.classLink (zcl q.1) q.2.1 "java/util/NoSuchElementException")
  | 201 => zhas q.2.2.2.1 (.classLink (zcl q.1) q.2.1 "java/lang/IllegalArgumentException")
  | 300 => zhas q.2.2.2.1 (.constant (zcl q.1) q.2.1 (Int32.ofNat q.2.2.2.2))
  | 400 => zhas q.2.2.2.1 (.constantLong (zcl q.1) q.2.1 (Int64.ofNat q.2.2.2.2))
  | 500 => zhas q.2.2.2.1 (.fieldLink (zcl q.1) q.2.1 "java/lang/String" "COMPACT_STRINGS" "Z")
  | 501 => zhas q.2.2.2.1 (.fieldLink (zcl q.1) q.2.1 "jdk/internal/util/Preconditions" "SIOOBE_FORMATTER" "Ljava/util/function/BiFunction;")
  | ci => match zFl[ci]? with
    | some f => zhas q.2.2.2.1 (.classLink (zcl q.1) q.2.1 f.1)
    | none => false
theorem zN_all : zNk.all zckN = true := by decide +kernel
/-- what a new object holds -/
noncomputable def zckD (ci : Nat) : Bool := match zFl[ci]?, zNi[ci]?, zCd[ci]?, zTy[ci]? with
  | some f, some q, some fs, some ty => zhas q.1 (.instantiable f.1 f.2.length) && zhas q.2 (.initialized f.1) && decide (ty.map defaultValue = fs) && decide (fs.length = f.2.length) && fs.all (fun v => decide (v = .null) || decide (v = .int 0) || decide (v = .long 0))
  | _, _, _, _ => false
theorem zD_all : (List.range 13).all zckD = true := by decide +kernel
theorem zD_ok {oc idx ci pos y : Nat} (h : (oc, idx, ci, pos, y) ∈ zNk) {fs : List Value} (hfs : zCd[ci]? = some fs) : z_okN zCl zTs (zcl oc) idx ci fs := by
  have hlt : ci < 13 := by
    have h1 : zCd.length = 13 := by decide +kernel
    have := (List.getElem?_eq_some_iff.mp hfs).1
    omega
  have hc := List.all_eq_true.mp zD_all ci (List.mem_range.mpr hlt)
  have hn := List.all_eq_true.mp zN_all _ h
  unfold zckD at hc
  rw [hfs] at hc
  split at hc
  · rename_i f q fs' ty h1 h2 h3 h4
    cases h3
    simp only [Bool.and_eq_true, decide_eq_true_eq] at hc
    obtain ⟨⟨⟨⟨c1, c2⟩, c3⟩, c4⟩, c5⟩ := hc
    have hcl : zCl[ci]? = some (f.1, (fun k => f.2.getD k ("", "", "", false)), f.2.length) := by
      unfold zCl
      rw [List.getElem?_map, h1]
      rfl
    obtain ⟨u1, u2, u3⟩ := zU hcl
    have hlk : zhas pos (.classLink (zcl oc) idx f.1) = true := by
      unfold zckN at hn
      simp only at hn
      split at hn
      · omega
      · omega
      · omega
      · omega
      · omega
      · omega
      · rw [h1] at hn
        exact hn
    refine ⟨_, _, _, ztyf ci, hcl, u1, u2, zhas_mem hlk, zhas_mem c1, zhas_mem c2, fun j hj => ?_, c4, fun v hv => ?_⟩
    · subst c3
      have hj2 : j < ty.length := by simp only [List.length_map] at c4; omega
      have e1 : ztyf ci j = ty[j] := by simp only [ztyf, List.getD_eq_getElem?_getD, h4, Option.getD_some, List.getElem?_eq_getElem hj2]
      rw [e1]
      simp only [vp_V, List.getD_eq_getElem?_getD, List.getElem?_map, List.getElem?_eq_getElem hj2, Option.map_some, Option.getD_some]
    · have := List.all_eq_true.mp c5 v hv
      simp only [Bool.or_eq_true, decide_eq_true_eq] at this
      rcases this with (h9 | h9) | h9
      · exact Or.inl h9
      · exact Or.inr (Or.inl h9)
      · exact Or.inr (Or.inr h9)
  · cases hc
