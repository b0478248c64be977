section LNC
variable {t : Txt} {S : St} {E : zX} {d : Nat} {p : Nat} {K : Kst} {top : Nat}
theorem KM_ft {S' : St} {q : Nat} (h : KM t S p K top) (f : FT S S') (T : TkM t S' q) (hq : p ≤ q) : KM t S' q K top := by
  obtain ⟨hT, hg, ⟨l23, l24, l25, l26, l71, l72, lr, lu, l29⟩, hX, ht⟩ := h
  refine ⟨T, ?_, ⟨?_, ?_, ?_, ?_, ?_, ?_, ?_, ?_, ?_⟩, ?_, by omega⟩
  · rw [f.2 12 (by omega)]
    exact hg
  · rw [f.2 23 (by omega)]
    exact l23
  · rw [f.2 24 (by omega)]
    exact l24
  · rw [f.2 25 (by omega)]
    exact l25
  · rw [f.2 26 (by omega)]
    exact l26
  · rw [f.1 71 (by decide)]
    exact l71
  · rw [f.1 72 (by decide)]
    exact l72
  · rw [f.2 27 (by omega), f.1 74 (by decide)]
    exact lr
  · rw [f.2 28 (by omega), f.1 74 (by decide)]
    exact lu
  · rw [f.2 29 (by omega)]
    exact l29
  · rw [f.1 73 (by decide)]
    exact hX
/-- a line begins -/
theorem e_beg0 {Q : Int32 → St → Prop} (hd : 4 ≤ d) (hT : TkM t S p) (hg : S 65 12 = 0) (h : ∀ S' : St, FT S S' → TkM t S' (te t p) → Q 1 S') : k_m_begins E d S 0 0 Q := by
  refine w_m_begins (by omega) ?_
  rw [if_pos rfl]
  refine w_m_begins_9 (by omega) ?_
  rw [if_pos rfl]
  refine e_okN hg ?_
  rw [if_neg (by decide)]
  exact e_nextM (by omega) hT h
theorem e_begW {Q : Int32 → St → Prop} (hd : 4 ≤ d) (hT : TkM t S p) (hg : S 65 12 = 0) (h : ∀ S' : St, F2 S S' → FaN S' (2, tf t p) → Q 0 S') : k_m_begins E d S 1 0 Q := by
  refine w_m_begins (by omega) ?_
  rw [if_neg (by decide)]
  refine e_wrongN (v := 2) hT hg (by omega) (fun S' f F => ?_)
  refine w_m_begins_9 (by omega) ?_
  rw [if_pos rfl]
  refine e_badN F ?_
  rw [if_pos rfl]
  exact h S' f F
theorem e_begR {Q : Int32 → St → Prop} (hd : 4 ≤ d) (hT : TkM t S p) (hg : S 65 12 = 0) (h : ∀ S' : St, F2 S S' → FaN S' (5, tf t p) → Q 0 S') : k_m_begins E d S 0 1 Q := by
  refine w_m_begins (by omega) ?_
  rw [if_pos rfl]
  refine w_m_begins_9 (by omega) ?_
  rw [if_neg (by decide)]
  refine e_wrongN (v := 5) hT hg (by omega) (fun S' f F => ?_)
  refine e_badN F ?_
  rw [if_pos rfl]
  exact h S' f F
variable {Q : St → Prop}
/-- the sign at its end -/
theorem e_endL (hd : 4 ≤ d) (hR : KM t S p K top) (h1 : ∀ (S' : St) (a : Nat × Kst), pEnd t p K = .inr a → FLn S S' → KM t S' a.1 a.2 top → Q S') (h0 : ∀ (S' : St) (g : Nat × Nat), pEnd t p K = .inl g → FLn S S' → FaN S' g → Q S') : k_m_isSign E d S 59 (fun x S2 => k_m_need E d S2 x Q) := by
  refine e_needS (c := 59) hd hR.1 hR.2.1 (by omega) (fun S' e f T => ?_) (fun S' g e f F => ?_)
  · refine h1 S' (te t p, K) (by unfold pEnd; rw [e]) (FLn_ft f) (KM_ft hR f T ?_)
    have := (rdS_r hR.1.2.1 e).1
    omega
  · exact h0 S' g (by unfold pEnd; rw [e]) (FLn_f2 f) F
/-- a rule -/
theorem e_rule {pe : Bool} {j : Nat} (hj : j = if pe then 27 else 28) (hd : 8 ≤ d) (hR : KM t S p K top) (hq : top + 2 ≤ 2 * p) (h1 : ∀ (S' : St) (r : Nat × List Tok), pEx t pe 6 p = .inr r → FLn S S' → KM t S' r.1 (if pe then lRn K.1 r.2 else lUn K.1 r.2, K.2) (top + ofL r.2 + 1) → Q S') (h0 : ∀ (S' : St) (g : Nat × Nat), pEx t pe 6 p = .inl g → FLn S S' → FaN S' g → Q S') : ∀ S7, S7 = up S 65 j (S 65 29) → k_m_expression E d S7 (nI (if pe then 0 else 4)) (nI (if pe then 4 else 8)) Q := by
  intro S7 e7
  obtain ⟨hT, hg, ⟨l23, l24, l25, l26, l71, l72, lr, lu, l29⟩, hX, ht⟩ := hR
  have j2 : j = 27 ∨ j = 28 := by
    rw [hj]
    cases pe
    · exact Or.inr rfl
    · exact Or.inl rfl
  have u7 : ∀ i, i ≠ j → S7 65 i = S 65 i := fun i hi => by rw [e7, up_same, upd_ne _ _ hi]
  have o7 : ∀ k, k ≠ 65 → S7 k = S k := fun k hk => by rw [e7, up_ne _ _ _ hk]
  have fl7 : FLn S S7 := by
    rw [e7]
    exact FLn_65 (by omega)
  have T7 : TkM t S7 p := by
    rw [e7]
    exact TkM_i hT (by omega)
  refine e_expression (base := top) (od := S 74) hd T7 (by rw [u7 12 (by omega)]; exact hg) (by rw [u7 29 (by omega)]; exact l29) hq (o7 74 (by decide)) (fun S' r er fb T' g' h29 hc hz hb => ?_) (fun S' g eg fb g12 g13 => ?_)
  · have pg := PG_ex (t := t) (pe := pe) 6 p hT.2.1
    rw [er] at pg
    have pos : 0 < r.2.length := by
      have := pg.2.2.2.1 0 40 (by omega)
      cases e : r.2 with
      | nil =>
        rw [e] at this
        cases this
      | cons a b => exact Nat.succ_pos _
    have j7 : S' 65 j = nI top := by
      rw [fb.2 j (by omega), e7, up_same, upd_same]
      exact l29
    have new : RuT (!pe) (rOf r.2) (nI top) (S' 74) (top + ofL r.2 + 1) := ⟨fun e => absurd e (by show ¬ r.2.length = 0; omega), fun _ => ⟨r.2, top, rfl, rfl, by omega, hc.1, hz, pg.2.2.2.2⟩⟩
    have w : ∀ i, i ≠ j → (23 ≤ i ∧ i < 29) → S' 65 i = S 65 i := fun i a b => by rw [fb.2 i (by omega), u7 i a]
    have o : ∀ k, k ∉ [65, 74, 75, 76] → S' k = S k := fun k hk => by rw [fb.1 k hk, o7 k (fun e => hk (by rw [e]; decide))]
    have old : ∀ (b : Bool) (r' : Rul) (a0 : Int32), RuT b r' a0 (S 74) top → RuT b r' a0 (S' 74) (top + ofL r.2 + 1) := fun b r' a0 h => RuT_of h (by omega) hc.2
    have x73 : KXM (lb K.1) K.2 (S' 73) := by
      rw [o 73 (by decide)]
      exact hX
    have c71 : ∀ i, i < lp K.1 → S' 71 i = nI (lhm K.1 i) := by
      rw [o 71 (by decide)]
      exact l71
    have c72 : ∀ x, x < lb K.1 → S' 72 x = nI (lsz K.1 x) := by
      rw [o 72 (by decide)]
      exact l72
    have e23 : S' 65 23 = nI (lw K.1) := by
      rw [w 23 (by omega) (by omega)]
      exact l23
    have e24 : S' 65 24 = nI (lh K.1) := by
      rw [w 24 (by omega) (by omega)]
      exact l24
    have e25 : S' 65 25 = nI (lp K.1) := by
      rw [w 25 (by omega) (by omega)]
      exact l25
    have e26 : S' 65 26 = nI (lb K.1) := by
      rw [w 26 (by omega) (by omega)]
      exact l26
    refine h1 S' r er (fl7.trans (FLn_fb fb)) ?_
    cases pe with
    | true =>
      have hj : j = 27 := hj
      subst hj
      refine ⟨T', g', ⟨e23, e24, e25, e26, c71, c72, ?_, ?_, h29⟩, x73, by omega⟩
      · rw [j7]
        exact new
      · rw [w 28 (by omega) (by omega)]
        exact old _ _ _ lu
    | false =>
      have hj : j = 28 := hj
      subst hj
      refine ⟨T', g', ⟨e23, e24, e25, e26, c71, c72, ?_, ?_, h29⟩, x73, by omega⟩
      · rw [w 27 (by omega) (by omega)]
        exact old _ _ _ lr
      · rw [j7]
        exact new
  · have fo := fo_ex (t := t) (pe := pe) 6 p
    rw [eg] at fo
    exact h0 S' g eg (fl7.trans (FLn_fb fb)) ⟨g12, g13, fo.1, fo.2⟩
theorem RuT_told {b : Bool} {r : Rul} {a0 : Int32} {f : Nat → Int32} (h : RuT b r a0 f top) (ht : top ≤ 1400) : a0 = -1 ↔ ¬ 0 < r.1 := by
  constructor
  · intro e hp
    obtain ⟨o, a, h1, h2, h3, h4⟩ := h.2 hp
    rw [h2] at e
    exact oI_ne (y := a) (by omega) e
  · intro e
    exact h.1 (by omega)
/-- one line -/
theorem e_line (hd : 12 ≤ d) (hK : KOk K) (hR : KM t S p K top) (h1 : ∀ (S' : St) (a : Nat × Kst) (top' : Nat), pLine t K p = .inr a → FLn S S' → KM t S' a.1 a.2 top' → Q S') (h0 : ∀ (S' : St) (g : Nat × Nat), pLine t K p = .inl g → FLn S S' → FaN S' g → Q S') : k_m_line E d S Q := by
  have hT := hR.1
  have hg := hR.2.1
  have hlo := hK.1
  have hL := hR.2.2.1
  have ht := hR.2.2.2.2
  have p7 : p ≤ 700 := Nat.le_trans hT.2.1 hT.1.1
  have l7 := hlo.2.2.2.2.1
  have l10 := hlo.2.2.2.2.2.1
  have kw : ∀ k, k < 17 → (oI (kwd t p) = nI k ↔ isW t p (wRf k) = true) := fun k hk => by
    constructor
    · intro g
      cases e : kwd t p with
      | none =>
        rw [e] at g
        exact absurd g.symm (oI_ne (y := k) (by omega))
      | some m =>
        have := (fstF_inv _ _ e).2.1
        rw [e] at g
        have g : nI m = nI k := g
        rw [nI_eq (by omega) (by omega)] at g
        rw [g] at e
        exact (kwd_iff hk).mp e
    · intro g
      rw [(kwd_iff hk).mpr g]
      rfl
  refine w_m_line (by omega) (e_knownWord (by omega) hT ?_)
  refine ife (fun e => ?_) (fun n10 => ?_)
  · have hw : isW t p wPerson = true := (kw 10 (by omega)).mp e
    have eL : pLine t K p = pPer t K p := if_pos hw
    have s0 := step_p hT.2.1 (isW_k hw)
    rw [hL.2.2.1]
    refine ife (fun e7 => ?_) (fun e7 => ?_)
    · have e7 : nI (lp K.1) = nI 7 := e7
      rw [nI_eq (by omega) (by omega)] at e7
      refine w_m_line_26 (by omega) (e_begW (by omega) hT hg (fun S' f F => ?_))
      rw [if_pos rfl]
      exact e_needX (by omega) F (h0 S' _ (by rw [eL]; unfold pPer; rw [if_pos (by omega)]) (FLn_f2 f) F)
    · have e7 : ¬ nI (lp K.1) = nI 7 := e7
      rw [nI_eq (by omega) (by omega)] at e7
      have h7 : ¬ 7 ≤ lp K.1 := by omega
      refine w_m_line_26 (by omega) (e_beg0 (by omega) hT hg (fun S2 f2 T2 => ?_))
      rw [if_neg (by decide)]
      refine e_readsPerson (by omega) hK (KM_ft hR f2 T2 (by omega)) (by omega) (fun S3 a b c ea eb ec fl3 R3 => ?_) (fun S3 g hor fl3 F => ?_)
      · have eP : pLine t K p = pEnd t c.1 (lPn K.1 a.2, uX (uX K.2 4 (lp K.1) b.2) 1 (lp K.1) c.2) := by
          rw [eL]
          unfold pPer
          simp only [if_neg h7, ea, eb, ec]
        exact e_endL (by omega) R3 (fun S4 a4 e4 fl4 R4 => h1 S4 a4 _ (eP.trans e4) (((FLn_ft f2).trans fl3).trans fl4) R4) (fun S4 g e4 fl4 F => h0 S4 g (eP.trans e4) (((FLn_ft f2).trans fl3).trans fl4) F)
      · have eP : pLine t K p = .inl g := by
          rw [eL]
          unfold pPer
          rcases hor with eg | ⟨a, ea, eg | ⟨b, eb, eg⟩⟩
          · simp only [if_neg h7, eg]
          · simp only [if_neg h7, ea, eg]
          · simp only [if_neg h7, ea, eb, eg]
        exact e_needX (by omega) F (h0 S3 g eP ((FLn_ft f2).trans fl3) F)
  have m10 : ¬ isW t p wPerson = true := fun g => n10 ((kw 10 (by omega)).mpr g)
  refine ife (fun e => ?_) (fun n11 => ?_)
  · have hw : isW t p wBall = true := (kw 11 (by omega)).mp e
    have eL : pLine t K p = pBal t K p := by
      unfold pLine
      rw [if_neg m10, if_pos hw]
    have s0 := step_p hT.2.1 (isW_k hw)
    rw [hL.2.2.2.1]
    refine ife (fun e7 => ?_) (fun e7 => ?_)
    · have e7 : nI (lb K.1) = nI 10 := e7
      rw [nI_eq (by omega) (by omega)] at e7
      refine w_m_line_61 (by omega) (e_begW (by omega) hT hg (fun S' f F => ?_))
      rw [if_pos rfl]
      exact e_needX (by omega) F (h0 S' _ (by rw [eL]; unfold pBal; rw [if_pos (by omega)]) (FLn_f2 f) F)
    · have e7 : ¬ nI (lb K.1) = nI 10 := e7
      rw [nI_eq (by omega) (by omega)] at e7
      have h7 : ¬ 10 ≤ lb K.1 := by omega
      refine w_m_line_61 (by omega) (e_beg0 (by omega) hT hg (fun S2 f2 T2 => ?_))
      rw [if_neg (by decide)]
      refine e_readsBall (by omega) hK (KM_ft hR f2 T2 (by omega)) (by omega) (fun S3 q a b X ea eb hor fl3 R3 => ?_) (fun S3 g hor fl3 F => ?_)
      · have eP : pLine t K p = pEnd t q (lBn K.1 b.2, X) := by
          rw [eL]
          unfold pBal
          rcases hor with ⟨hh, c, ec, eq, eX⟩ | ⟨hh, eq, eX⟩
          · simp only [if_neg h7, ea, eb, if_pos hh, ec]
            rw [eq, eX]
          · simp only [if_neg h7, ea, eb, if_neg hh]
            rw [eq, eX]
        exact e_endL (by omega) R3 (fun S4 a4 e4 fl4 R4 => h1 S4 a4 _ (eP.trans e4) (((FLn_ft f2).trans fl3).trans fl4) R4) (fun S4 g e4 fl4 F => h0 S4 g (eP.trans e4) (((FLn_ft f2).trans fl3).trans fl4) F)
      · have eP : pLine t K p = .inl g := by
          rw [eL]
          unfold pBal
          rcases hor with eg | ⟨a, ea, eg | ⟨b, eb, hh, eg⟩⟩
          · simp only [if_neg h7, eg]
          · simp only [if_neg h7, ea, eg]
          · simp only [if_neg h7, ea, eb, if_pos hh, eg]
        exact e_needX (by omega) F (h0 S3 g eP ((FLn_ft f2).trans fl3) F)
  have m11 : ¬ isW t p wBall = true := fun g => n11 ((kw 11 (by omega)).mpr g)
  refine ife (fun e => ?_) (fun n12 => ?_)
  · have hw : isW t p wRises = true := (kw 12 (by omega)).mp e
    have eL : pLine t K p = pRul t true K p := by
      unfold pLine
      rw [if_neg m10, if_neg m11, if_pos hw]
    have s0 := step_p hT.2.1 (isW_k hw)
    have told := RuT_told hL.2.2.2.2.2.2.1 (by omega)
    refine ife (fun e7 => ?_) (fun e7 => ?_)
    · have h7 := told.mp e7
      refine w_m_line_96 (by omega) (e_beg0 (by omega) hT hg (fun S2 f2 T2 => ?_))
      rw [if_neg (by decide)]
      refine e_rule (pe := true) (K := K) (top := top) rfl (by omega) (KM_ft hR f2 T2 (by omega)) (by omega) (fun S3 r er fl3 R3 => ?_) (fun S3 g eg fl3 F => ?_)
      · have eP : pLine t K p = pEnd t r.1 (lRn K.1 r.2, K.2) := by
          rw [eL]
          unfold pRul
          simp only [if_true, if_neg h7, er]
        exact e_endL (by omega) R3 (fun S4 a4 e4 fl4 R4 => h1 S4 a4 _ (eP.trans e4) (((FLn_ft f2).trans fl3).trans fl4) R4) (fun S4 g e4 fl4 F => h0 S4 g (eP.trans e4) (((FLn_ft f2).trans fl3).trans fl4) F)
      · have eP : pLine t K p = .inl g := by
          rw [eL]
          unfold pRul
          simp only [if_true, if_neg h7, eg]
        exact e_needX (by omega) F (h0 S3 g eP ((FLn_ft f2).trans fl3) F)
    · have h7 : 0 < (lri K.1).1 := Decidable.byContradiction (fun g => e7 (told.mpr g))
      refine w_m_line_96 (by omega) (e_begR (by omega) hT hg (fun S' f F => ?_))
      rw [if_pos rfl]
      exact e_needX (by omega) F (h0 S' _ (by rw [eL]; unfold pRul; exact if_pos h7) (FLn_f2 f) F)
  have m12 : ¬ isW t p wRises = true := fun g => n12 ((kw 12 (by omega)).mpr g)
  refine ife (fun e => ?_) (fun n13 => ?_)
  · have hw : isW t p wBursts = true := (kw 13 (by omega)).mp e
    have eL : pLine t K p = pRul t false K p := by
      unfold pLine
      rw [if_neg m10, if_neg m11, if_neg m12, if_pos hw]
    have s0 := step_p hT.2.1 (isW_k hw)
    have told := RuT_told hL.2.2.2.2.2.2.2.1 (by omega)
    refine ife (fun e7 => ?_) (fun e7 => ?_)
    · have h7 := told.mp e7
      refine w_m_line_140 (by omega) (e_beg0 (by omega) hT hg (fun S2 f2 T2 => ?_))
      rw [if_neg (by decide)]
      refine e_rule (pe := false) (K := K) (top := top) rfl (by omega) (KM_ft hR f2 T2 (by omega)) (by omega) (fun S3 r er fl3 R3 => ?_) (fun S3 g eg fl3 F => ?_)
      · have eP : pLine t K p = pEnd t r.1 (lUn K.1 r.2, K.2) := by
          rw [eL]
          unfold pRul
          simp only [Bool.false_eq_true, if_false, if_neg h7, er]
        exact e_endL (by omega) R3 (fun S4 a4 e4 fl4 R4 => h1 S4 a4 _ (eP.trans e4) (((FLn_ft f2).trans fl3).trans fl4) R4) (fun S4 g e4 fl4 F => h0 S4 g (eP.trans e4) (((FLn_ft f2).trans fl3).trans fl4) F)
      · have eP : pLine t K p = .inl g := by
          rw [eL]
          unfold pRul
          simp only [Bool.false_eq_true, if_false, if_neg h7, eg]
        exact e_needX (by omega) F (h0 S3 g eP ((FLn_ft f2).trans fl3) F)
    · have h7 : 0 < (lbu K.1).1 := Decidable.byContradiction (fun g => e7 (told.mpr g))
      refine w_m_line_140 (by omega) (e_begR (by omega) hT hg (fun S' f F => ?_))
      rw [if_pos rfl]
      exact e_needX (by omega) F (h0 S' _ (by rw [eL]; unfold pRul; exact if_pos h7) (FLn_f2 f) F)
  have m13 : ¬ isW t p wBursts = true := fun g => n13 ((kw 13 (by omega)).mpr g)
  refine e_wrongN (v := 1) hT hg (by omega) (fun S' f F => ?_)
  exact e_needX (by omega) F (h0 S' _ (by unfold pLine; rw [if_neg m10, if_neg m11, if_neg m12, if_neg m13]) (FLn_f2 f) F)
end LNC
