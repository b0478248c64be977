/-! THE CHECK, method by method; then what z_main asks -/
noncomputable def zcov (q : Nat × Nat × Nat × Nat) (pc : Nat) : Bool := covers ⟨q.1, q.2.1, q.2.2.1, q.2.2.2⟩ pc
/-- a thrown x at pc is caught by the table: the first row that covers and names its class; what is thrown goes to lo -/
noncomputable def zfind (M pc x lo tg : Nat) : List (Nat × Nat × Nat × Nat) → Bool
  | [] => false
  | q :: r => bif zcov q pc then (bif znm (zYr M).1 q.2.2.2 (200 + x) none then (!(Nat.beq q.2.2.2 0)) && ((match lo with
        | 0 => zdl (zB M) q.2.2.1 (.astore_n 0) 1 && Nat.beq tg (q.2.2.1 + 1)
        | 1 => zdl (zB M) q.2.2.1 (.astore_n 1) 1 && Nat.beq tg (q.2.2.1 + 1)
        | 2 => zdl (zB M) q.2.2.1 (.astore_n 2) 1 && Nat.beq tg (q.2.2.1 + 1)
        | 3 => zdl (zB M) q.2.2.1 (.astore_n 3) 1 && Nat.beq tg (q.2.2.1 + 1)
        | k => zdl (zB M) q.2.2.1 (.astore k) 2 && Nat.beq tg (q.2.2.1 + 2)))
      else ((!(Nat.beq q.2.2.2 0)) && znm (zYr M).1 q.2.2.2 (201 - x) none && zfind M pc x lo tg r))
    else zfind M pc x lo tg r
theorem zEn2 {M pc x : Nat} (hx : x < 2) {idx : Nat} (h : znm (zYr M).1 idx (200 + x) none = true) : Cond.classLink (zY M).cls idx (zEN x) ∈ zTs := by
  obtain ⟨pos, v, hn, -⟩ := znm_ok h
  have hcn := List.all_eq_true.mp zN_all _ hn
  have : x = 0 ∨ x = 1 := by omega
  rcases this with rfl | rfl
  · exact zhas_mem hcn
  · exact zhas_mem hcn
theorem zcast : Cond.castable "java/util/NoSuchElementException" "java/util/NoSuchElementException" ∈ zWb ∧ Cond.castable "java/lang/IllegalArgumentException" "java/lang/IllegalArgumentException" ∈ zWb := by decide +kernel
theorem zfind_ok {M pc x lo tg : Nat} (hx : x < 2) : ∀ (hh : List (Nat × Nat × Nat × Nat)), zfind M pc x lo tg hh = true → ∃ (pre : List ExceptionTableEntry) (y : ExceptionTableEntry) (suf : List ExceptionTableEntry) (name : String), tableOf hh = pre ++ y :: suf ∧
    (∀ z ∈ pre, covers z pc = false ∨ (z.catchType ≠ 0 ∧ ∃ nm : String, Cond.classLink (zY M).cls z.catchType nm ∈ zTs ∧ (zEN x, nm) ∈ zNc)) ∧ covers y pc = true ∧ y.catchType ≠ 0 ∧ Cond.classLink (zY M).cls y.catchType name ∈ zTs ∧ Cond.castable (zEN x) name ∈ zWb ∧
    ((∃ k : Fin 4, decode (zB M) y.handlerPc = .ok (.astore_n k, 1) ∧ (k : Nat) = lo ∧ tg = y.handlerPc + 1) ∨ (decode (zB M) y.handlerPc = .ok (.astore lo, 2) ∧ tg = y.handlerPc + 2)) := by
  intro hh
  induction hh with
  | nil => intro h; cases h
  | cons q r ih =>
    intro h
    unfold zfind at h
    cases hc : zcov q pc with
    | true =>
      rw [hc] at h
      simp only [cond_true] at h
      cases hn : znm (zYr M).1 q.2.2.2 (200 + x) none with
      | true =>
        rw [hn] at h
        simp only [cond_true, Bool.and_eq_true, Bool.not_eq_true'] at h
        refine ⟨[], ⟨q.1, q.2.1, q.2.2.1, q.2.2.2⟩, tableOf r, zEN x, rfl, fun z hz => (by cases hz), hc, fun e => ?_, zEn2 (pc := pc) hx hn, ?_, ?_⟩
        · have e : q.2.2.2 = 0 := e
          rw [e] at h
          cases h.1
        · have : x = 0 ∨ x = 1 := by omega
          rcases this with rfl | rfl
          · exact zcast.1
          · exact zcast.2
        · have h2 := h.2
          split at h2
          · simp only [Bool.and_eq_true] at h2
            exact Or.inl ⟨0, zdl_ok h2.1, rfl, Nat.eq_of_beq_eq_true h2.2⟩
          · simp only [Bool.and_eq_true] at h2
            exact Or.inl ⟨1, zdl_ok h2.1, rfl, Nat.eq_of_beq_eq_true h2.2⟩
          · simp only [Bool.and_eq_true] at h2
            exact Or.inl ⟨2, zdl_ok h2.1, rfl, Nat.eq_of_beq_eq_true h2.2⟩
          · simp only [Bool.and_eq_true] at h2
            exact Or.inl ⟨3, zdl_ok h2.1, rfl, Nat.eq_of_beq_eq_true h2.2⟩
          · simp only [Bool.and_eq_true] at h2
            exact Or.inr ⟨zdl_ok h2.1, Nat.eq_of_beq_eq_true h2.2⟩
      | false =>
        rw [hn] at h
        simp only [cond_false, Bool.and_eq_true, Bool.not_eq_true'] at h
        obtain ⟨⟨g1, g2⟩, g3⟩ := h
        obtain ⟨pre, y, suf, name, e1, e2, e3⟩ := ih g3
        refine ⟨⟨q.1, q.2.1, q.2.2.1, q.2.2.2⟩ :: pre, y, suf, name, by show _ :: tableOf r = _; rw [e1]; rfl, fun z hz => ?_, e3⟩
        rcases List.mem_cons.mp hz with rfl | hz
        · refine Or.inr ⟨fun e => ?_, zEN (1 - x), ?_, ?_⟩
          · have e : q.2.2.2 = 0 := e
            rw [e] at g1
            cases g1
          · have : x = 0 ∨ x = 1 := by omega
            rcases this with rfl | rfl
            · exact zEn2 (pc := pc) (x := 1) (by omega) g2
            · exact zEn2 (pc := pc) (x := 0) (by omega) g2
          · have : x = 0 ∨ x = 1 := by omega
            rcases this with rfl | rfl
            · exact List.mem_cons_self
            · exact List.mem_cons_of_mem _ List.mem_cons_self
        · exact e2 z hz
    | false =>
      rw [hc] at h
      simp only [cond_false] at h
      obtain ⟨pre, y, suf, name, e1, e2, e3⟩ := ih h
      refine ⟨⟨q.1, q.2.1, q.2.2.1, q.2.2.2⟩ :: pre, y, suf, name, by show _ :: tableOf r = _; rw [e1]; rfl, fun z hz => ?_, e3⟩
      rcases List.mem_cons.mp hz with rfl | hz
      · exact Or.inl hc
      · exact e2 z hz
/-- a method, whole -/
noncomputable def zckM (M : Nat) : Bool := match zP M with
  | none => true
  | some mt => mt.1.all (fun q => zckI M q.1 q.2) && mt.2.2.2.all (fun q => Nat.blt q.2.1 2 && zfind M q.1 q.2.1 q.2.2.1 q.2.2.2 (zHH M)) && (match mt.2.2.2 with
    | [] => decide (zHH M = [])
    | _ => true)
theorem zat_mem {α : Type} {a : α} : ∀ {l : List (Nat × α)} {i : Nat}, zat l i = some a → (i, a) ∈ l
  | [], _, h => by cases h
  | q :: r, i, h => by
    unfold zat at h
    cases hb : Nat.beq q.1 i with
    | true =>
      rw [hb] at h
      have := Nat.eq_of_beq_eq_true hb
      subst this
      cases h
      exact List.mem_cons_self
    | false =>
      rw [hb] at h
      exact List.mem_cons_of_mem _ (zat_mem h)
theorem zhnd_mem : ∀ {l : List (Nat × Nat × Nat × Nat)} {pc x : Nat} {u : Nat × Nat}, zhnd l pc x = some u → (pc, x, u.1, u.2) ∈ l
  | [], _, _, _, h => by cases h
  | q :: r, pc, x, u, h => by
    unfold zhnd at h
    cases hb : (Nat.beq q.1 pc && Nat.beq q.2.1 x) with
    | true =>
      rw [hb] at h
      simp only [Bool.and_eq_true] at hb
      have h1 := Nat.eq_of_beq_eq_true hb.1
      have h2 := Nat.eq_of_beq_eq_true hb.2
      cases h
      subst h1; subst h2
      exact List.mem_cons_self
    | false =>
      rw [hb] at h
      exact List.mem_cons_of_mem _ (zhnd_mem h)
theorem zM_ok {M : Nat} {mt : zM} (hP : zP M = some mt) (h : zckM M = true) : z_okM zP zCd zSx zWb zNc zFm zCl zTs zY zB zHH M mt := by
  have hy := zY_ok hP
  unfold zckY at hy
  unfold zckM at h
  rw [hP] at h hy
  cases hq : zmc M with
  | none => rw [hq] at hy; cases hy
  | some q =>
    rw [hq] at hy
    simp only [Bool.and_eq_true, decide_eq_true_eq] at hy h
    obtain ⟨⟨⟨⟨⟨⟨⟨y1, y2⟩, y3⟩, y4⟩, y5⟩, y6⟩, y7⟩, y8⟩ := hy
    obtain ⟨⟨h1, h2⟩, h3⟩ := h
    refine ⟨y3, zW_ok y1, y7, fun e => ?_, fun pc x lo tg hh => ?_, fun pc j hj => ?_⟩
    · rw [e] at h3
      exact of_decide_eq_true h3
    · have hm := zhnd_mem hh
      have hc := List.all_eq_true.mp h2 _ hm
      simp only [Bool.and_eq_true] at hc
      have hx : x < 2 := by simpa using hc.1
      obtain ⟨pre, y, suf, name, e1, e2, e3, e4, e5, e6, e7⟩ := zfind_ok hx _ hc.2
      exact ⟨pre, y, suf, name, e1, e2, e3, e4, e5, e6, e7⟩
    · exact zI_ok (List.all_eq_true.mp h1 _ (zat_mem hj))
