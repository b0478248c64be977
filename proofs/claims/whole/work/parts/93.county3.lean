/-! COUNTY in the class: rules -/
/-- a rule is read: so far this -/
def RdC (t : Txt) (ru : Nat) (pe : Bool) (S : St) (p : Nat) (o : List Tok) : Prop := TkC t S p ∧ (ru = 16 ∨ ru = 18) ∧ S 12 12 = nI ru ∧ S 12 13 = zb (pe = true) ∧ S ru 1 = nI o.length ∧ ∀ i, i < o.length → S (ru + 1) i = encC (o.getD i (0, 0))
def FrR (ru : Nat) (S S' : St) : Prop := Fr [12, ru, ru + 1] S S' ∧ ∀ i, i ∉ [6, 7, 8, 9, 10, 11] → S' 12 i = S 12 i
theorem FrR.refl (ru : Nat) (S : St) : FrR ru S S := ⟨Fr.refl _ _, fun _ _ => rfl⟩
theorem FrR.trans {ru : Nat} {S S1 S2 : St} (h1 : FrR ru S S1) (h2 : FrR ru S1 S2) : FrR ru S S2 := ⟨h1.1.trans h2.1, fun i hi => (h2.2 i hi).trans (h1.2 i hi)⟩
theorem fr_12 {ru : Nat} {S S' : St} (h1 : Fr [12] S S') : Fr [12, ru, ru + 1] S S' := h1.mono (fun k hk => by rw [List.mem_singleton.mp hk]; exact List.mem_cons_self)
theorem FrR_12 {ru : Nat} {S S' : St} (h1 : Fr [12] S S') (h2 : ∀ i, i ∉ [6, 7, 8, 9, 10, 11] → S' 12 i = S 12 i) : FrR ru S S' := ⟨h1.mono (fun k hk => by rw [List.mem_singleton.mp hk]; exact List.mem_cons_self), h2⟩
theorem FrR_f {ru : Nat} {S S' : St} (h : F12 S S') : FrR ru S S' := FrR_12 h.1 (fun i hi => h.2 i (fun hm => hi (by simp only [List.mem_cons, List.not_mem_nil, or_false] at hm ⊢; omega)))
section RC
variable {t : Txt} {ru : Nat} {pe : Bool} {S : St} {E : zX} {d : Nat} {p : Nat} {o : List Tok}
theorem RdC_f {S' : St} {p' : Nat} (h : RdC t ru pe S p o) (f : F12 S S') (hT : TkC t S' p') : RdC t ru pe S' p' o := by
  obtain ⟨_, h2, h3, h4, h5, h6⟩ := h
  refine ⟨hT, h2, ?_, ?_, ?_, ?_⟩
  · rw [f.2 12 (by decide)]
    exact h3
  · rw [f.2 13 (by decide)]
    exact h4
  · rw [f.1 ru (by rw [List.mem_singleton]; omega)]
    exact h5
  · rw [f.1 (ru + 1) (by rw [List.mem_singleton]; omega)]
    exact h6
theorem c_next {Q : St → Prop} (hd : 8 ≤ d) (hE : TE E) (hR : RdC t ru pe S p o) (h : ∀ S' : St, FrR ru S S' → RdC t ru pe S' (te t p) o → Q S') : k_Reader_nextToken E d S Q :=
  c_nextToken hd hE hR.1.1 hR.1.2.2.2.1 (te_le hR.1.2.1) (fun S' f hT => h S' (FrR_f f) (RdC_f hR f hT))
theorem getD_app {o : List Tok} {x : Tok} {i : Nat} (h : i < o.length) : (o ++ [x]).getD i (0, 0) = o.getD i (0, 0) := by
  rw [List.getD_eq_getElem?_getD, List.getD_eq_getElem?_getD, List.getElem?_append_left h]
theorem getD_lst {o : List Tok} {x : Tok} : (o ++ [x]).getD o.length (0, 0) = x := by
  rw [List.getD_eq_getElem?_getD, List.getElem?_append_right (Nat.le_refl _), Nat.sub_self]
  rfl
theorem c_add {x : Tok} {v : Int32} {Q : St → Prop} (hR : RdC t ru pe S p o) (hl : o.length < 700) (hv : v = encC x) (h : ∀ S' : St, FrR ru S S' → RdC t ru pe S' p (o ++ [x]) → Q S') : Ru ((S 12 12).toNatClampNeg) ∧ k_Rule_add E d S ((S 12 12).toNatClampNeg) v Q := by
  obtain ⟨hT, h2, h3, h4, h5, h6⟩ := hR
  have hru : Ru ru := by
    rcases h2 with e | e
    · rw [e]
      exact ru16
    · rw [e]
      exact ru18
  rw [h3, nI_clamp (by omega)]
  refine ⟨hru, w_Rule_add hru ?_⟩
  rw [h5, if_neg (show ¬ (700 : Int32) ≤ nI o.length from nI_ge (b := 700) hl (by omega))]
  refine ⟨o.length, rfl, hl, fun S1 e1 S3 e3 => ?_⟩
  have f1 : Fr [12, ru, ru + 1] S S1 := by
    rw [e1]
    exact Fr.up _ _ (by simp)
  have f3 : Fr [12, ru, ru + 1] S S3 := f1.trans (by rw [e3]; exact Fr.up _ _ (by simp))
  have e12 : S3 12 = S 12 := by rw [e3, up_ne _ _ _ (by omega), e1, up_ne _ _ _ (by omega)]
  have e_1 : S3 1 = S 1 := by rw [e3, up_ne _ _ _ (by omega), e1, up_ne _ _ _ (by omega)]
  have T3 : TkC t S3 p := by
    unfold TkC TxC at hT ⊢
    rw [e12, e_1]
    exact hT
  refine h S3 ⟨f3, fun i _ => by rw [e12]⟩ ⟨T3, h2, ?_, ?_, ?_, fun i hi => ?_⟩
  · rw [e12]
    exact h3
  · rw [e12]
    exact h4
  · rw [e3, up_same, upd_same, e1, up_ne _ _ _ (by omega), h5, nI_1, List.length_append, List.length_singleton]
  · rw [List.length_append, List.length_singleton] at hi
    rw [e3, up_ne _ _ _ (by omega), e1, up_same]
    by_cases e : i = o.length
    · rw [e, upd_same, getD_lst]
      exact hv
    · rw [upd_ne _ _ e, getD_app (by omega)]
      exact h6 i (by omega)
/-- the contract of what reads -/
def CNt (t : Txt) (ru : Nat) (pe : Bool) (f : Nat → Rs) (k : St → (Int32 → St → Prop) → Prop) : Prop := ∀ (S : St) (p : Nat) (o0 : List Tok) (Q : Int32 → St → Prop), RdC t ru pe S p o0 → o0.length ≤ p → (∀ (S' : St) (r : Nat × List Tok), f p = .inr r → FrR ru S S' → RdC t ru pe S' r.1 (o0 ++ r.2) → Q 1 S') → (∀ (S' : St) (g : Nat × Nat), f p = .inl g → Fr [12, ru, ru + 1] S S' → S' 12 3 = nI g.1 → S' 12 2 = nI g.2 → Q 0 S') → k S Q
theorem c_failR {c : Nat} {Q : Int32 → St → Prop} (hR : RdC t ru pe S p o) (h : ∀ S' : St, Fr [12, ru, ru + 1] S S' → S' 12 3 = nI c → S' 12 2 = nI (tf t p) → Q 0 S') : k_Reader_fail E d S (nI c) (fun x S2 => (x = 0 ∨ x = 1) ∧ Q x S2) :=
  c_fail (fun S' f1 _ v3 v2 => ⟨Or.inl rfl, h S' (fr_12 f1) v3 (by rw [v2]; exact hR.1.2.2.1)⟩)
theorem c_readSign {c : Nat} {Q : Int32 → St → Prop} (hd : 10 ≤ d) (hE : TE E) (hR : RdC t ru pe S p o) (hc : c < 256) (h1 : ∀ S' : St, isS t p c = true → FrR ru S S' → RdC t ru pe S' (te t p) o → Q 1 S') (h0 : ∀ S' : St, ¬ isS t p c = true → Fr [12, ru, ru + 1] S S' → S' 12 3 = nI 1 → S' 12 2 = nI (tf t p) → Q 0 S') : k_Reader_readSign E d S (nI c) Q := by
  refine w_Reader_readSign (by omega) (c_isSign hR.1 hc (izb (fun e => ?_) (fun e => ?_)))
  · exact c_next (by omega) hE hR (fun S' f R' => h1 S' e f R')
  · exact c_failR (c := 1) hR (fun S' f v3 v2 => h0 S' e f v3 v2)

/-- Product -/
theorem c_readProduct {w : Nat} {f : Nat → Rs} {D : Nat} (hd : 12 ≤ d) (hE : TE E) (hPG : ∀ q, q ≤ t.1 → PG t D q (f q)) (hs : CNt t ru pe f (fun S Q => k_Reader_readPart E (d - 1) S (nI w) Q)) : CNt t ru pe (pLp t (opM t) f) (fun S Q => k_Reader_readProduct E d S (nI w) Q) := by
  intro S p o0 Q hR hl h1 h0
  have hp := hR.1.2.1
  have n7 := hR.1.1.1
  have eP : pLp t (opM t) f p = match f p with
    | .inl g => .inl g
    | .inr r => lpf t (opM t) f 700 r.1 r.2 := rfl
  refine w_Reader_readProduct (by omega) (hs S p o0 _ hR hl (fun S' r er f' R' => ?_) (fun S' g eg f' v3 v2 => ?_))
  · rw [if_neg (by decide)]
    have pg := hPG p hp
    rw [er] at pg eP
    have loop : ∀ n k, k + n = 700 → ∀ (S2 : St) (q : Nat) (o : List Tok), FrR ru S S2 → RdC t ru pe S2 q (o0 ++ o) → (o0 ++ o).length ≤ q → lpf t (opM t) f n q o = pLp t (opM t) f p → k_Reader_readProduct_12 E d S2 (nI w) k Q := by
      intro n
      induction n with
      | zero =>
        intro k hk S2 q o f2 R2 ll el
        refine w_Reader_readProduct_12 (by omega) ?_
        rw [if_pos (nI_le (by omega) (by omega))]
        exact h1 S2 (q, o) el.symm f2 R2
      | succ n ih =>
        intro k hk S2 q o f2 R2 ll el
        have q7 := R2.1.2.1
        have none : opM t q = none → Q 1 S2 := fun e => by
          unfold lpf at el
          rw [e] at el
          exact h1 S2 (q, o) el.symm f2 R2
        have more : ∀ (kk : Nat) (v : Int32), opM t q = some kk → v = encC (kk, 0) → k_Reader_readProduct_53 E d S2 (nI w) k v Q := fun kk v e ev => by
          have hk2 := opM_k e
          have g1 := te_gt (t := t) (p := q) hk2.1
          have g2 := tf_ge (t := t) (p := q)
          unfold lpf at el
          rw [e] at el
          refine w_Reader_readProduct_53 (by omega) (c_next (by omega) hE R2 (fun S3 f3 R3 => ?_))
          refine hs S3 (te t q) (o0 ++ o) _ R3 (by omega) (fun S4 r4 e4 f4 R4 => ?_) (fun S4 g4 e4 f4 v3 v2 => ?_)
          · have pg4 := hPG (te t q) (te_le q7)
            rw [e4] at pg4
            simp only at el
            rw [e4] at el
            have a1 := pg4.1
            have a2 := pg4.2.1
            have a3 := pg4.2.2.1
            have len : (o0 ++ o ++ r4.2).length < r4.1 := by
              rw [List.length_append]
              omega
            rw [if_neg (by decide)]
            refine c_add (x := (kk, 0)) R4 (by omega) ev (fun S5 f5 R5 => ?_)
            have ea : o0 ++ o ++ r4.2 ++ [(kk, 0)] = o0 ++ (o ++ r4.2 ++ [(kk, 0)]) := by simp only [List.append_assoc]
            rw [ea] at R5
            refine ih (k + 1) (by omega) S5 r4.1 _ (((f2.trans f3).trans f4).trans f5) R5 ?_ el
            rw [← ea, List.length_append, List.length_singleton]
            omega
          · simp only at el
            rw [e4] at el
            rw [if_pos rfl]
            exact h0 S4 g4 el.symm ((f2.trans f3).1.trans f4) v3 v2
        refine w_Reader_readProduct_12 (by omega) ?_
        rw [if_neg (nI_ge (by omega) (by omega))]
        refine c_isSign R2.1 (c := 42) (by omega) (izb (fun e => ?_) (fun e => ?_))
        · have oe : opM t q = some 9 := by
            unfold opM
            rw [if_pos e]
          refine c_isSign R2.1 (c := 42) (by omega) ?_
          rw [zb_t e, if_neg (by decide)]
          exact more 9 _ oe rfl
        · refine c_isSign R2.1 (c := 47) (by omega) (izb (fun e2 => ?_) (fun e2 => ?_))
          · have oe : opM t q = some 10 := by
              unfold opM
              rw [if_neg e, if_pos e2]
            refine c_isSign R2.1 (c := 42) (by omega) ?_
            rw [zb_f e, if_pos rfl]
            exact more 10 _ oe rfl
          · refine none ?_
            unfold opM
            rw [if_neg e, if_neg e2]
    have a1 := pg.1
    have a3 := pg.2.2.1
    refine loop 700 0 (by omega) S' r.1 r.2 f' R' ?_ eP.symm
    rw [List.length_append]
    omega
  · rw [eg] at eP
    rw [if_pos rfl]
    exact h0 S' g eP f' v3 v2

/-- Sum -/
theorem c_readSum {w : Nat} {f : Nat → Rs} {D : Nat} (hd : 12 ≤ d) (hE : TE E) (hPG : ∀ q, q ≤ t.1 → PG t D q (f q)) (hs : CNt t ru pe f (fun S Q => k_Reader_readProduct E (d - 1) S (nI w) Q)) : CNt t ru pe (pLp t (opA t) f) (fun S Q => k_Reader_readSum E d S (nI w) Q) := by
  intro S p o0 Q hR hl h1 h0
  have hp := hR.1.2.1
  have n7 := hR.1.1.1
  have eP : pLp t (opA t) f p = match f p with
    | .inl g => .inl g
    | .inr r => lpf t (opA t) f 700 r.1 r.2 := rfl
  refine w_Reader_readSum (by omega) (hs S p o0 _ hR hl (fun S' r er f' R' => ?_) (fun S' g eg f' v3 v2 => ?_))
  · rw [if_neg (by decide)]
    have pg := hPG p hp
    rw [er] at pg eP
    have loop : ∀ n k, k + n = 700 → ∀ (S2 : St) (q : Nat) (o : List Tok), FrR ru S S2 → RdC t ru pe S2 q (o0 ++ o) → (o0 ++ o).length ≤ q → lpf t (opA t) f n q o = pLp t (opA t) f p → k_Reader_readSum_12 E d S2 (nI w) k Q := by
      intro n
      induction n with
      | zero =>
        intro k hk S2 q o f2 R2 ll el
        refine w_Reader_readSum_12 (by omega) ?_
        rw [if_pos (nI_le (by omega) (by omega))]
        exact h1 S2 (q, o) el.symm f2 R2
      | succ n ih =>
        intro k hk S2 q o f2 R2 ll el
        have q7 := R2.1.2.1
        have none : opA t q = none → Q 1 S2 := fun e => by
          unfold lpf at el
          rw [e] at el
          exact h1 S2 (q, o) el.symm f2 R2
        have more : ∀ (kk : Nat) (v : Int32), opA t q = some kk → v = encC (kk, 0) → k_Reader_readSum_53 E d S2 (nI w) k v Q := fun kk v e ev => by
          have hk2 := opA_k e
          have g1 := te_gt (t := t) (p := q) hk2.1
          have g2 := tf_ge (t := t) (p := q)
          unfold lpf at el
          rw [e] at el
          refine w_Reader_readSum_53 (by omega) (c_next (by omega) hE R2 (fun S3 f3 R3 => ?_))
          refine hs S3 (te t q) (o0 ++ o) _ R3 (by omega) (fun S4 r4 e4 f4 R4 => ?_) (fun S4 g4 e4 f4 v3 v2 => ?_)
          · have pg4 := hPG (te t q) (te_le q7)
            rw [e4] at pg4
            simp only at el
            rw [e4] at el
            have a1 := pg4.1
            have a2 := pg4.2.1
            have a3 := pg4.2.2.1
            have len : (o0 ++ o ++ r4.2).length < r4.1 := by
              rw [List.length_append]
              omega
            rw [if_neg (by decide)]
            refine c_add (x := (kk, 0)) R4 (by omega) ev (fun S5 f5 R5 => ?_)
            have ea : o0 ++ o ++ r4.2 ++ [(kk, 0)] = o0 ++ (o ++ r4.2 ++ [(kk, 0)]) := by simp only [List.append_assoc]
            rw [ea] at R5
            refine ih (k + 1) (by omega) S5 r4.1 _ (((f2.trans f3).trans f4).trans f5) R5 ?_ el
            rw [← ea, List.length_append, List.length_singleton]
            omega
          · simp only at el
            rw [e4] at el
            rw [if_pos rfl]
            exact h0 S4 g4 el.symm ((f2.trans f3).1.trans f4) v3 v2
        refine w_Reader_readSum_12 (by omega) ?_
        rw [if_neg (nI_ge (by omega) (by omega))]
        refine c_isSign R2.1 (c := 43) (by omega) (izb (fun e => ?_) (fun e => ?_))
        · have oe : opA t q = some 7 := by
            unfold opA
            rw [if_pos e]
          refine c_isSign R2.1 (c := 43) (by omega) ?_
          rw [zb_t e, if_neg (by decide)]
          exact more 7 _ oe rfl
        · refine c_isSign R2.1 (c := 45) (by omega) (izb (fun e2 => ?_) (fun e2 => ?_))
          · have oe : opA t q = some 8 := by
              unfold opA
              rw [if_neg e, if_pos e2]
            refine c_isSign R2.1 (c := 43) (by omega) ?_
            rw [zb_f e, if_pos rfl]
            exact more 8 _ oe rfl
          · refine none ?_
            unfold opA
            rw [if_neg e, if_neg e2]
    have a1 := pg.1
    have a3 := pg.2.2.1
    refine loop 700 0 (by omega) S' r.1 r.2 f' R' ?_ eP.symm
    rw [List.length_append]
    omega
  · rw [eg] at eP
    rw [if_pos rfl]
    exact h0 S' g eP f' v3 v2

theorem c_readTest {w : Nat} {f : Nat → Rs} {D : Nat} (hd : 12 ≤ d) (hE : TE E) (hPG : ∀ q, q ≤ t.1 → PG t D q (f q)) (hs : ∀ d', d - 1 ≤ d' + 1 → d' ≤ d → CNt t ru pe f (fun S Q => k_Reader_readSum E d' S (nI w) Q)) : CNt t ru pe (pTest t f) (fun S Q => k_Reader_readTest E d S (nI w) Q) := by
  intro S p o0 Q hR hl h1 h0
  have hp := hR.1.2.1
  have n7 := hR.1.1.1
  have eP : pTest t f p = match f p with
    | .inl f => .inl f
    | .inr r => match opT t r.1 with
      | none => .inr r
      | some k => match f (te t r.1) with
        | .inl f => .inl f
        | .inr q => .inr (q.1, r.2 ++ q.2 ++ [(k, 0)]) := rfl
  refine w_Reader_readTest (by omega) (hs (d - 1) (by omega) (by omega) S p o0 _ hR hl (fun S' r er f' R' => ?_) (fun S' g eg f' v3 v2 => ?_))
  · have pg := hPG p hp
    rw [er] at pg eP
    simp only at eP
    have a1 := pg.1
    have a3 := pg.2.2.1
    have q7 := R'.1.2.1
    have more : ∀ (kk : Nat) (v : Int32), opT t r.1 = some kk → v = encC (kk, 0) → k_Reader_readTest_46 E d S' (nI w) v Q := fun kk v e ev => by
      have hk2 := opT_k e
      have g1 := te_gt (t := t) (p := r.1) hk2.1
      have g2 := tf_ge (t := t) (p := r.1)
      rw [e] at eP
      simp only at eP
      refine w_Reader_readTest_46 (by omega) (c_next (by omega) hE R' (fun S3 f3 R3 => ?_))
      refine hs (d - 1) (by omega) (by omega) S3 (te t r.1) (o0 ++ r.2) _ R3 (by rw [List.length_append]; omega) (fun S4 r4 e4 f4 R4 => ?_) (fun S4 g4 e4 f4 v3 v2 => ?_)
      · have pg4 := hPG (te t r.1) (te_le q7)
        rw [e4] at pg4 eP
        have b1 := pg4.1
        have b2 := pg4.2.1
        have b3 := pg4.2.2.1
        rw [if_neg (by decide)]
        refine c_add (x := (kk, 0)) R4 (by rw [List.length_append, List.length_append]; omega) ev (fun S5 f5 R5 => ?_)
        have ea : o0 ++ r.2 ++ r4.2 ++ [(kk, 0)] = o0 ++ (r.2 ++ r4.2 ++ [(kk, 0)]) := by simp only [List.append_assoc]
        rw [ea] at R5
        exact h1 S5 _ eP (((f'.trans f3).trans f4).trans f5) R5
      · rw [e4] at eP
        rw [if_pos rfl]
        exact h0 S4 g4 eP ((f'.trans f3).1.trans f4) v3 v2
    rw [if_neg (by decide)]
    refine c_isSign R'.1 (c := 60) (by omega) (izb (fun e => ?_) (fun e => ?_))
    · have oe : opT t r.1 = some 5 := by
        unfold opT
        rw [if_pos e]
      refine c_isSign R'.1 (c := 60) (by omega) ?_
      rw [zb_t e, if_neg (by decide)]
      exact more 5 _ oe rfl
    · refine c_isSign R'.1 (c := 61) (by omega) (izb (fun e2 => ?_) (fun e2 => ?_))
      · have oe : opT t r.1 = some 6 := by
          unfold opT
          rw [if_neg e, if_pos e2]
        refine c_isSign R'.1 (c := 60) (by omega) ?_
        rw [zb_f e, if_pos rfl]
        exact more 6 _ oe rfl
      · have oe : opT t r.1 = none := by
          unfold opT
          rw [if_neg e, if_neg e2]
        rw [oe] at eP
        exact h1 S' r eP f' R'
  · rw [eg] at eP
    rw [if_pos rfl]
    exact h0 S' g eP f' v3 v2
theorem rep_s (n : Nat) : List.replicate (n + 1) ((2, 0) : Tok) = List.replicate n (2, 0) ++ [(2, 0)] := List.replicate_succ'
theorem c_readNot {w : Nat} {f : Nat → Rs} {D : Nat} (hd : 12 ≤ d) (hE : TE E) (hPG : ∀ q, q ≤ t.1 → PG t D q (f q)) (hs : CNt t ru pe f (fun S Q => k_Reader_readTest E (d - 1) S (nI w) Q)) : CNt t ru pe (pNot t f) (fun S Q => k_Reader_readNot E d S (nI w) Q) := by
  intro S p o0 Q hR hl h1 h0
  have hp := hR.1.2.1
  have n7 := hR.1.1.1
  have nt := nts_ok (t := t) 6 p hp
  refine w_Reader_readNot (by omega) ?_
  have eP : pNot t f p = if (nts t 6 p).1 = 6 ∧ isW t (nts t 6 p).2 wNot = true then .inl (2, tf t (nts t 6 p).2) else match f (nts t 6 p).2 with
    | .inl f => .inl f
    | .inr q => .inr (q.1, q.2 ++ List.replicate (nts t 6 p).1 (2, 0)) := rfl
  generalize hN : nts t 6 p = N at eP nt
  -- behind the nots
  have test : ∀ S2 : St, FrR ru S S2 → RdC t ru pe S2 N.2 o0 → ¬ (N.1 = 6 ∧ isW t N.2 wNot = true) → k_Reader_readTest E (d - 1) S2 (nI w) (fun x3 S4 => if x3 = 0 then Q 0 S4 else k_Reader_readNot_60 E d S4 N.1 0 Q) := by
    intro S2 f2 R2 hno
    rw [if_neg hno] at eP
    refine hs S2 N.2 o0 _ R2 (by omega) (fun S4 r e4 f4 R4 => ?_) (fun S4 g e4 f4 v3 v2 => ?_)
    · rw [if_neg (by decide)]
      have pg := hPG N.2 nt.2.1
      rw [e4] at pg eP
      have a1 := pg.1
      have a2 := pg.2.1
      have a3 := pg.2.2.1
      refine dn (P := fun k => ∀ S5 : St, FrR ru S S5 → RdC t ru pe S5 r.1 (o0 ++ r.2 ++ List.replicate k (2, 0)) → k_Reader_readNot_60 E d S5 N.1 k Q) N.1 ?_ ?_ 0 (Nat.zero_le _) S4 (f2.trans f4) ?_
      · intro S5 f5 R5
        refine w_Reader_readNot_60 (by omega) ?_
        rw [if_pos (Int32.le_refl _)]
        rw [List.append_assoc] at R5
        exact h1 S5 _ eP f5 R5
      · intro k hk ih S5 f5 R5
        refine w_Reader_readNot_60 (by omega) ?_
        rw [if_neg (nI_ge hk (by omega))]
        refine c_add (x := (2, 0)) R5 (by rw [List.length_append, List.length_append, List.length_replicate]; omega) rfl (fun S6 f6 R6 => ih S6 (f5.trans f6) ?_)
        rw [rep_s, ← List.append_assoc]
        exact R6
      · rw [show List.replicate 0 ((2, 0) : Tok) = [] from rfl, List.append_nil]
        exact R4
    · rw [e4] at eP
      rw [if_pos rfl]
      exact h0 S4 g eP (f2.1.trans f4) v3 v2
  have l27 : ∀ S2 : St, FrR ru S S2 → RdC t ru pe S2 N.2 o0 → k_Reader_readNot_27 E d S2 (nI w) N.1 Q := by
    intro S2 f2 R2
    refine w_Reader_readNot_27 (by omega) ?_
    refine ife (fun e => ?_) (fun e => ?_)
    · rw [nI_eq (by omega) (by omega)] at e
      refine c_isWord (k := 6) (by omega) hE R2.1 (by omega) rfl (izb (fun ew => ?_) (fun ew => ?_))
      · have ew : isW t N.2 wNot = true := ew
        rw [if_pos ⟨e, ew⟩] at eP
        exact c_failR (c := 2) R2 (fun S' f' v3 v2 => h0 S' _ eP (f2.1.trans f') v3 v2)
      · exact test S2 f2 R2 (fun g => ew g.2)
    · rw [nI_eq (by omega) (by omega)] at e
      exact test S2 f2 R2 (fun g => e g.1)
  -- the nots
  have main : ∀ n k, k + n = 6 → ∀ (S2 : St) (q : Nat), FrR ru S S2 → RdC t ru pe S2 q o0 → ((nts t n q).1 + k, (nts t n q).2) = N → k_Reader_readNot_2 E d S2 (nI w) k Q := by
    intro n
    induction n with
    | zero =>
      intro k hk S2 q f2 R2 en
      refine w_Reader_readNot_2 (by omega) ?_
      rw [if_pos (nI_le (by omega) (by omega))]
      have : N = (k, q) := by
        rw [← en]
        show (0 + k, q) = _
        rw [Nat.zero_add]
      have l27 := l27 S2 f2
      rw [this] at l27
      exact l27 R2
    | succ n ih =>
      intro k hk S2 q f2 R2 en
      refine w_Reader_readNot_2 (by omega) ?_
      rw [if_neg (nI_ge (by omega) (by omega))]
      unfold nts at en
      refine c_isWord (k := 6) (by omega) hE R2.1 (by omega) rfl (izb (fun ew => ?_) (fun ew => ?_))
      · have ew : isW t q wNot = true := ew
        rw [if_pos ew] at en
        refine c_next (by omega) hE R2 (fun S3 f3 R3 => ?_)
        refine ih (k + 1) (by omega) S3 (te t q) (f2.trans f3) R3 ?_
        rw [← en]
        show ((nts t n (te t q)).1 + (k + 1), _) = ((nts t n (te t q)).1 + 1 + k, _)
        rw [show (nts t n (te t q)).1 + (k + 1) = (nts t n (te t q)).1 + 1 + k by omega]
      · have ew : ¬ isW t q wNot = true := ew
        rw [if_neg ew] at en
        have : N = (k, q) := by
          rw [← en]
          show (0 + k, q) = _
          rw [Nat.zero_add]
        have l27 := l27 S2 f2
        rw [this] at l27
        exact l27 R2
  exact main 6 0 (by omega) S p (FrR.refl _ _) hR hN
/-- which value a word is, in the class -/
theorem c_valueOf {Q : Int32 → St → Prop} (hd : 9 ≤ d) (hE : TE E) (hT : TkC t S p) (h : Q (oI (vlu t pe p)) S) : if pe = true then k_Reader_valueOfPerson E d S Q else k_Reader_valueOfBall E d S Q := by
  have key : ∀ b0 b1 b2 b3 b4 : Bool, (isW t p (wvl pe 0) = b0) → (isW t p (wvl pe 1) = b1) → (isW t p (wvl pe 2) = b2) → (isW t p (wvl pe 3) = b3) → (isW t p (wvl pe 4) = b4) → vlu t pe p = if b0 then some 0 else if b1 then some 1 else if b2 then some 2 else if b3 then some 3 else if b4 then some 4 else none := fun b0 b1 b2 b3 b4 e0 e1 e2 e3 e4 => by
    unfold vlu fstF fstF fstF fstF fstF fstF
    simp only [e0, e1, e2, e3, e4]
    cases b0 <;> cases b1 <;> cases b2 <;> cases b3 <;> cases b4 <;> rfl
  have key := key _ _ _ _ _ rfl rfl rfl rfl rfl
  rw [key] at h
  cases pe with
  | true =>
    rw [if_pos rfl]
    refine w_Reader_valueOfPerson (by omega) ?_
    refine c_isWord (k := 7) (by omega) hE hT (by omega) rfl (izb (fun e => ?_) (fun e => ?_))
    · rw [if_pos (show isW t p (wvl true 0) = true from e)] at h
      exact h
    rw [if_neg (show ¬ isW t p (wvl true 0) = true from e)] at h
    refine c_isWord (k := 8) (by omega) hE hT (by omega) rfl (izb (fun e => ?_) (fun e => ?_))
    · rw [if_pos (show isW t p (wvl true 1) = true from e)] at h
      exact h
    rw [if_neg (show ¬ isW t p (wvl true 1) = true from e)] at h
    refine c_isWord (k := 9) (by omega) hE hT (by omega) rfl (izb (fun e => ?_) (fun e => ?_))
    · rw [if_pos (show isW t p (wvl true 2) = true from e)] at h
      exact h
    rw [if_neg (show ¬ isW t p (wvl true 2) = true from e)] at h
    refine c_isWord (k := 10) (by omega) hE hT (by omega) rfl (izb (fun e => ?_) (fun e => ?_))
    · rw [if_pos (show isW t p (wvl true 3) = true from e)] at h
      exact h
    rw [if_neg (show ¬ isW t p (wvl true 3) = true from e)] at h
    refine c_isWord (k := 11) (by omega) hE hT (by omega) rfl (izb (fun e => ?_) (fun e => ?_))
    · rw [if_pos (show isW t p (wvl true 4) = true from e)] at h
      exact h
    · rw [if_neg (show ¬ isW t p (wvl true 4) = true from e)] at h
      exact h
  | false =>
    rw [if_neg (by decide)]
    refine w_Reader_valueOfBall (by omega) ?_
    refine c_isWord (k := 4) (by omega) hE hT (by omega) rfl (izb (fun e => ?_) (fun e => ?_))
    · rw [if_pos (show isW t p (wvl false 0) = true from e)] at h
      exact h
    rw [if_neg (show ¬ isW t p (wvl false 0) = true from e)] at h
    refine c_isWord (k := 12) (by omega) hE hT (by omega) rfl (izb (fun e => ?_) (fun e => ?_))
    · rw [if_pos (show isW t p (wvl false 1) = true from e)] at h
      exact h
    rw [if_neg (show ¬ isW t p (wvl false 1) = true from e)] at h
    refine c_isWord (k := 13) (by omega) hE hT (by omega) rfl (izb (fun e => ?_) (fun e => ?_))
    · rw [if_pos (show isW t p (wvl false 2) = true from e)] at h
      exact h
    rw [if_neg (show ¬ isW t p (wvl false 2) = true from e)] at h
    refine c_isWord (k := 14) (by omega) hE hT (by omega) rfl (izb (fun e => ?_) (fun e => ?_))
    · rw [if_pos (show isW t p (wvl false 3) = true from e)] at h
      exact h
    rw [if_neg (show ¬ isW t p (wvl false 3) = true from e)] at h
    refine c_isWord (k := 11) (by omega) hE hT (by omega) rfl (izb (fun e => ?_) (fun e => ?_))
    · rw [if_pos (show isW t p (wvl false 4) = true from e)] at h
      exact h
    · rw [if_neg (show ¬ isW t p (wvl false 4) = true from e)] at h
      exact h

/-- And -/
theorem c_readAnd {w : Nat} {f : Nat → Rs} {D : Nat} (hd : 12 ≤ d) (hE : TE E) (hPG : ∀ q, q ≤ t.1 → PG t D q (f q)) (hs : CNt t ru pe f (fun S Q => k_Reader_readNot E (d - 1) S (nI w) Q)) : CNt t ru pe (pLp t (opN t) f) (fun S Q => k_Reader_readAnd E d S (nI w) Q) := by
  intro S p o0 Q hR hl h1 h0
  have hp := hR.1.2.1
  have n7 := hR.1.1.1
  have eP : pLp t (opN t) f p = match f p with
    | .inl g => .inl g
    | .inr r => lpf t (opN t) f 700 r.1 r.2 := rfl
  refine w_Reader_readAnd (by omega) (hs S p o0 _ hR hl (fun S' r er f' R' => ?_) (fun S' g eg f' v3 v2 => ?_))
  · rw [if_neg (by decide)]
    have pg := hPG p hp
    rw [er] at pg eP
    have loop : ∀ n k, k + n = 700 → ∀ (S2 : St) (q : Nat) (o : List Tok), FrR ru S S2 → RdC t ru pe S2 q (o0 ++ o) → (o0 ++ o).length ≤ q → lpf t (opN t) f n q o = pLp t (opN t) f p → k_Reader_readAnd_12 E d S2 (nI w) k Q := by
      intro n
      induction n with
      | zero =>
        intro k hk S2 q o f2 R2 ll el
        refine w_Reader_readAnd_12 (by omega) ?_
        rw [if_pos (nI_le (by omega) (by omega))]
        exact h1 S2 (q, o) el.symm f2 R2
      | succ n ih =>
        intro k hk S2 q o f2 R2 ll el
        have q7 := R2.1.2.1
        refine w_Reader_readAnd_12 (by omega) ?_
        rw [if_neg (nI_ge (by omega) (by omega))]
        refine c_isWord (k := 15) (by omega) hE R2.1 (by omega) rfl (izb (fun ew => ?_) (fun ew => ?_))
        · have e : opN t q = some 4 := by
            unfold opN
            exact if_pos ew
          have hk2 := opN_k e
          have g1 := te_gt (t := t) (p := q) hk2.1
          have g2 := tf_ge (t := t) (p := q)
          unfold lpf at el
          rw [e] at el
          refine c_next (by omega) hE R2 (fun S3 f3 R3 => ?_)
          refine hs S3 (te t q) (o0 ++ o) _ R3 (by omega) (fun S4 r4 e4 f4 R4 => ?_) (fun S4 g4 e4 f4 v3 v2 => ?_)
          · have pg4 := hPG (te t q) (te_le q7)
            rw [e4] at pg4
            simp only at el
            rw [e4] at el
            have a1 := pg4.1
            have a2 := pg4.2.1
            have a3 := pg4.2.2.1
            have len : (o0 ++ o ++ r4.2).length < r4.1 := by
              rw [List.length_append]
              omega
            rw [if_neg (by decide)]
            refine c_add (x := (4, 0)) R4 (by omega) rfl (fun S5 f5 R5 => ?_)
            have ea : o0 ++ o ++ r4.2 ++ [(4, 0)] = o0 ++ (o ++ r4.2 ++ [(4, 0)]) := by simp only [List.append_assoc]
            rw [ea] at R5
            refine ih (k + 1) (by omega) S5 r4.1 _ (((f2.trans f3).trans f4).trans f5) R5 ?_ el
            rw [← ea, List.length_append, List.length_singleton]
            omega
          · simp only at el
            rw [e4] at el
            rw [if_pos rfl]
            exact h0 S4 g4 el.symm ((f2.trans f3).1.trans f4) v3 v2
        · have e : opN t q = none := by
            unfold opN
            exact if_neg ew
          unfold lpf at el
          rw [e] at el
          exact h1 S2 (q, o) el.symm f2 R2
    have a1 := pg.1
    have a3 := pg.2.2.1
    refine loop 700 0 (by omega) S' r.1 r.2 f' R' ?_ eP.symm
    rw [List.length_append]
    omega
  · rw [eg] at eP
    rw [if_pos rfl]
    exact h0 S' g eP f' v3 v2

/-- Expr -/
theorem c_readExpr {w : Nat} {f : Nat → Rs} {D : Nat} (hd : 12 ≤ d) (hw : w < 6) (hE : TE E) (hPG : ∀ q, q ≤ t.1 → PG t D q (f q)) (hs : CNt t ru pe f (fun S Q => k_Reader_readAnd E (d - 1) S (nI w) Q)) : CNt t ru pe (pLp t (opO t) f) (fun S Q => k_Reader_readExpr E d S (nI w) Q) := by
  intro S p o0 Q hR hl h1 h0
  have hp := hR.1.2.1
  have n7 := hR.1.1.1
  have eP : pLp t (opO t) f p = match f p with
    | .inl g => .inl g
    | .inr r => lpf t (opO t) f 700 r.1 r.2 := rfl
  refine w_Reader_readExpr (by omega) ?_
  rw [if_pos (show nI w < 6 from nI_lt (b := 6) hw (by omega))]
  refine hs S p o0 _ hR hl (fun S' r er f' R' => ?_) (fun S' g eg f' v3 v2 => ?_)
  · rw [if_neg (by decide)]
    have pg := hPG p hp
    rw [er] at pg eP
    have loop : ∀ n k, k + n = 700 → ∀ (S2 : St) (q : Nat) (o : List Tok), FrR ru S S2 → RdC t ru pe S2 q (o0 ++ o) → (o0 ++ o).length ≤ q → lpf t (opO t) f n q o = pLp t (opO t) f p → k_Reader_readExpr_49 E d S2 (nI w) k Q := by
      intro n
      induction n with
      | zero =>
        intro k hk S2 q o f2 R2 ll el
        refine w_Reader_readExpr_49 (by omega) ?_
        rw [if_pos (nI_le (by omega) (by omega))]
        exact h1 S2 (q, o) el.symm f2 R2
      | succ n ih =>
        intro k hk S2 q o f2 R2 ll el
        have q7 := R2.1.2.1
        refine w_Reader_readExpr_49 (by omega) ?_
        rw [if_neg (nI_ge (by omega) (by omega))]
        refine c_isWord (k := 16) (by omega) hE R2.1 (by omega) rfl (izb (fun ew => ?_) (fun ew => ?_))
        · have e : opO t q = some 3 := by
            unfold opO
            exact if_pos ew
          have hk2 := opO_k e
          have g1 := te_gt (t := t) (p := q) hk2.1
          have g2 := tf_ge (t := t) (p := q)
          unfold lpf at el
          rw [e] at el
          refine c_next (by omega) hE R2 (fun S3 f3 R3 => ?_)
          refine hs S3 (te t q) (o0 ++ o) _ R3 (by omega) (fun S4 r4 e4 f4 R4 => ?_) (fun S4 g4 e4 f4 v3 v2 => ?_)
          · have pg4 := hPG (te t q) (te_le q7)
            rw [e4] at pg4
            simp only at el
            rw [e4] at el
            have a1 := pg4.1
            have a2 := pg4.2.1
            have a3 := pg4.2.2.1
            have len : (o0 ++ o ++ r4.2).length < r4.1 := by
              rw [List.length_append]
              omega
            rw [if_neg (by decide)]
            refine c_add (x := (3, 0)) R4 (by omega) rfl (fun S5 f5 R5 => ?_)
            have ea : o0 ++ o ++ r4.2 ++ [(3, 0)] = o0 ++ (o ++ r4.2 ++ [(3, 0)]) := by simp only [List.append_assoc]
            rw [ea] at R5
            refine ih (k + 1) (by omega) S5 r4.1 _ (((f2.trans f3).trans f4).trans f5) R5 ?_ el
            rw [← ea, List.length_append, List.length_singleton]
            omega
          · simp only at el
            rw [e4] at el
            rw [if_pos rfl]
            exact h0 S4 g4 el.symm ((f2.trans f3).1.trans f4) v3 v2
        · have e : opO t q = none := by
            unfold opO
            exact if_neg ew
          unfold lpf at el
          rw [e] at el
          exact h1 S2 (q, o) el.symm f2 R2
    have a1 := pg.1
    have a3 := pg.2.2.1
    refine loop 700 0 (by omega) S' r.1 r.2 f' R' ?_ eP.symm
    rw [List.length_append]
    omega
  · rw [eg] at eP
    rw [if_pos rfl]
    exact h0 S' g eP f' v3 v2
end RC
