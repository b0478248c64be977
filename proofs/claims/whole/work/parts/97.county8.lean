/-! COUNTY in the class: the call -/
/-- faults are 1 to 5 -/
def Fo {α : Type} : (Nat × Nat) ⊕ α → Prop
  | .inl g => 1 ≤ g.1 ∧ g.1 ≤ 5
  | .inr _ => True
theorem fo_i {α : Type} (c p : Nat) (h : 1 ≤ c) (h5 : c ≤ 5) : Fo (.inl (c, p) : (Nat × Nat) ⊕ α) := ⟨h, h5⟩
section FO
variable {t : Txt}
theorem fo_N {lo hi p : Nat} : Fo (rdN t lo hi p) := by
  unfold rdN
  split
  · split
    · exact fo_i _ _ (by omega) (by omega)
    · trivial
  · exact fo_i _ _ (by omega) (by omega)
theorem fo_C {c p : Nat} : Fo (rdC t c p) := by
  unfold rdC
  split
  · split
    · exact fo_i _ _ (by omega) (by omega)
    · split
      · exact fo_i _ _ (by omega) (by omega)
      · trivial
  · exact fo_i _ _ (by omega) (by omega)
theorem fo_S {c p : Nat} : Fo (rdS t c p) := by
  unfold rdS
  split
  · trivial
  · exact fo_i _ _ (by omega) (by omega)
theorem fo_End {p : Nat} {K : Kst} : Fo (pEnd t p K) := by
  unfold pEnd
  have := fo_S (t := t) (c := 59) (p := p)
  cases e : rdS t 59 p with
  | inl g =>
    rw [e] at this
    exact this
  | inr q => trivial
theorem fo_part {pe : Bool} {ex : Nat → Rs} (h : ∀ p, Fo (ex p)) (p : Nat) : Fo (pPart t pe ex p) := by
  unfold pPart
  split
  · split
    · exact fo_i _ _ (by omega) (by omega)
    · trivial
  · split
    · split
      · exact fo_i _ _ (by omega) (by omega)
      · trivial
    · split
      · have := h (te t p)
        cases e : ex (te t p) with
        | inl g =>
          rw [e] at this
          exact this
        | inr r =>
          show Fo (if isS t r.1 41 then .inr (te t r.1, r.2) else .inl (1, tf t r.1))
          split
          · trivial
          · exact fo_i _ _ (by omega) (by omega)
      · exact fo_i _ _ (by omega) (by omega)
theorem fo_lpf {op : Nat → Option Nat} {nx : Nat → Rs} (h : ∀ p, Fo (nx p)) : ∀ n p o, Fo (lpf t op nx n p o)
  | 0, _, _ => trivial
  | n + 1, p, o => by
    unfold lpf
    cases op p with
    | none => trivial
    | some k =>
      have := h (te t p)
      cases e : nx (te t p) with
      | inl g =>
        rw [e] at this
        exact this
      | inr r => exact fo_lpf h n _ _
theorem fo_lp {op : Nat → Option Nat} {nx : Nat → Rs} (h : ∀ p, Fo (nx p)) (p : Nat) : Fo (pLp t op nx p) := by
  unfold pLp
  have := h p
  cases e : nx p with
  | inl g =>
    rw [e] at this
    exact this
  | inr r => exact fo_lpf h 700 _ _
theorem fo_test {nx : Nat → Rs} (h : ∀ p, Fo (nx p)) (p : Nat) : Fo (pTest t nx p) := by
  unfold pTest
  have h1 := h p
  cases e : nx p with
  | inl g =>
    rw [e] at h1
    exact h1
  | inr r =>
    show Fo (match opT t r.1 with
      | none => .inr r
      | some k => match nx (te t r.1) with
        | .inl f => .inl f
        | .inr q => .inr (q.1, r.2 ++ q.2 ++ [(k, 0)]))
    cases opT t r.1 with
    | none => trivial
    | some k =>
      have h2 := h (te t r.1)
      simp only
      cases e2 : nx (te t r.1) with
      | inl g =>
        rw [e2] at h2
        exact h2
      | inr q => trivial
theorem fo_not {nx : Nat → Rs} (h : ∀ p, Fo (nx p)) (p : Nat) : Fo (pNot t nx p) := by
  unfold pNot
  split
  · exact fo_i _ _ (by omega) (by omega)
  · have h1 := h (nts t 6 p).2
    cases e : nx (nts t 6 p).2 with
    | inl g =>
      rw [e] at h1
      exact h1
    | inr q => trivial
theorem fo_ex {pe : Bool} : ∀ n p, Fo (pEx t pe n p)
  | 0, p => by
    unfold pEx
    show 1 ≤ (if _ then 2 else 1) ∧ (if _ then 2 else 1) ≤ 5
    split <;> omega
  | n + 1, p => by
    unfold pEx
    exact fo_lp (fo_lp (fo_not (fo_test (fo_lp (fo_lp (fo_part (fo_ex n))))))) p
theorem fo_per {K : Kst} {p : Nat} : Fo (pPer t K p) := by
  unfold pPer
  split
  · exact fo_i _ _ (by omega) (by omega)
  · have h1 := fo_C (t := t) (c := lw K.1 * lh K.1) (p := te t p)
    cases e1 : rdC t (lw K.1 * lh K.1) (te t p) with
    | inl g =>
      rw [e1] at h1
      exact h1
    | inr a =>
      simp only
      have h2 := fo_N (t := t) (lo := 0) (hi := 9) (p := a.1)
      cases e2 : rdN t 0 9 a.1 with
      | inl g =>
        rw [e2] at h2
        exact h2
      | inr b =>
        simp only
        have h3 := fo_N (t := t) (lo := 0) (hi := 99) (p := b.1)
        cases e3 : rdN t 0 99 b.1 with
        | inl g =>
          rw [e3] at h3
          exact h3
        | inr c => exact fo_End
theorem fo_bal {K : Kst} {p : Nat} : Fo (pBal t K p) := by
  unfold pBal
  split
  · exact fo_i _ _ (by omega) (by omega)
  · have h1 := fo_C (t := t) (c := lw K.1 * lh K.1) (p := te t p)
    cases e1 : rdC t (lw K.1 * lh K.1) (te t p) with
    | inl g =>
      rw [e1] at h1
      exact h1
    | inr a =>
      simp only
      have h2 := fo_N (t := t) (lo := 1) (hi := 99) (p := a.1)
      cases e2 : rdN t 1 99 a.1 with
      | inl g =>
        rw [e2] at h2
        exact h2
      | inr b =>
        simp only
        split
        · have h3 := fo_N (t := t) (lo := 1) (hi := b.2) (p := te t b.1)
          cases e3 : rdN t 1 b.2 (te t b.1) with
          | inl g =>
            rw [e3] at h3
            exact h3
          | inr c => exact fo_End
        · exact fo_End
theorem fo_rul {K : Kst} {pe : Bool} {p : Nat} : Fo (pRul t pe K p) := by
  unfold pRul
  by_cases h : 0 < (if pe then lri K.1 else lbu K.1).1
  · rw [if_pos h]
    exact fo_i _ _ (by omega) (by omega)
  · rw [if_neg h]
    have h1 := fo_ex (t := t) (pe := pe) 6 (te t p)
    cases e1 : pEx t pe 6 (te t p) with
    | inl g =>
      rw [e1] at h1
      exact h1
    | inr a => exact fo_End
theorem fo_line {K : Kst} {p : Nat} : Fo (pLine t K p) := by
  unfold pLine
  split
  · exact fo_per
  · split
    · exact fo_bal
    · split
      · exact fo_rul
      · split
        · exact fo_rul
        · exact fo_i _ _ (by omega) (by omega)
theorem fo_lns : ∀ n p K, Fo (lns t n p K)
  | 0, _, _ => trivial
  | n + 1, p, K => by
    unfold lns
    split
    · trivial
    · have h1 := fo_line (t := t) (K := K) (p := p)
      cases e1 : pLine t K p with
      | inl g =>
        rw [e1] at h1
        exact h1
      | inr a => exact fo_lns n _ _
theorem fo_cty : Fo (pCty t) := by
  unfold pCty
  split
  · have h1 := fo_N (t := t) (lo := 1) (hi := 6) (p := te t 0)
    cases e1 : rdN t 1 6 (te t 0) with
    | inl g =>
      rw [e1] at h1
      exact h1
    | inr a =>
      simp only
      have h2 := fo_N (t := t) (lo := 1) (hi := 6) (p := a.1)
      cases e2 : rdN t 1 6 a.1 with
      | inl g =>
        rw [e2] at h2
        exact h2
      | inr b =>
        simp only
        have h3 := fo_S (t := t) (c := 59) (p := b.1)
        cases e3 : rdS t 59 b.1 with
        | inl g =>
          rw [e3] at h3
          exact h3
        | inr q => exact fo_lns _ _ _
  · exact fo_lns _ _ _
end FO
section TXT
variable {t : Txt} {S : St} {E : zX} {d : Nat}
theorem c_sceneClear {Q : St → Prop} (h : ∀ S' : St, Fr [23] S S' → KXC (fun _ _ => 0) S' → Q S') : k_Scene_clear E d S 22 Q := by
  refine w_Scene_clear sc22 ?_
  refine dn (P := fun k => ∀ S' : St, Fr [23] S S' → (∀ i, i < k → S' 23 i = 0) → k_Scene_clear_2 E d S' 22 k Q) 70 ?_ ?_ 0 (Nat.zero_le _) S (Fr.refl _ _) (fun i hi => absurd hi (Nat.not_lt_zero i))
  · intro S1 f1 z1
    refine w_Scene_clear_2 sc22 ?_
    rw [if_pos (Int32.le_refl _)]
    refine dn (P := fun k => ∀ S' : St, Fr [23] S S' → (∀ i, i < 70 → S' 23 i = if 50 ≤ i ∧ i < 50 + k then -1 else 0) → k_Scene_clear_23 E d S' 22 k Q) 10 ?_ ?_ 0 (Nat.zero_le _) S1 f1 (fun i hi => by rw [if_neg (by omega)]; exact z1 i hi)
    · intro S2 f2 z2
      refine w_Scene_clear_23 sc22 ?_
      rw [if_pos (Int32.le_refl _)]
      refine h S2 f2 ⟨fun k i hk hi => ?_, ?_⟩
      · have c10 := cap_10 k
        have o70 := (offC_1 k hk i (by omega) hi).2
        rw [z2 _ o70]
        have rel : (50 ≤ offC k + i ∧ offC k + i < 50 + 10) ↔ k = 8 := by
          constructor
          · intro g
            have e8 : offC 8 + (offC k + i - 50) = offC k + i := by
              show 50 + (offC k + i - 50) = offC k + i
              omega
            exact ((offC_inj 8 (by decide) k hk (offC k + i - 50) (by omega) i (by omega) (by show offC k + i - 50 < 10; omega) hi e8).1).symm
          · intro g
            subst g
            have : i < 10 := hi
            show 50 ≤ 50 + i ∧ 50 + i < 50 + 10
            omega
        unfold sK
        by_cases e : k = 8
        · rw [if_pos (rel.mpr e), if_pos e]
        · rw [if_neg (fun g => e (rel.mp g)), if_neg e]
          split <;> rfl
      · rw [z2 1 (by omega), if_neg (by omega)]
    · intro k hk ih S2 f2 z2
      refine w_Scene_clear_23 sc22 ?_
      rw [if_neg (nI_ge hk (by omega))]
      refine ⟨by omega, fun S3 e3 => ih S3 (f2.trans (by rw [e3]; exact Fr.up _ _ (by decide))) (fun i hi => ?_)⟩
      rw [e3, up_same]
      by_cases e : i = 50 + k
      · rw [e, upd_same, if_pos (by omega)]
      · rw [upd_ne _ _ e, z2 i hi]
        by_cases g : 50 ≤ i ∧ i < 50 + k
        · rw [if_pos g, if_pos (by omega)]
        · rw [if_neg g, if_neg (by omega)]
  · intro k hk ih S1 f1 z1
    refine w_Scene_clear_2 sc22 ?_
    rw [if_neg (nI_ge hk (by omega))]
    refine ⟨hk, fun S3 e3 => ih S3 (f1.trans (by rw [e3]; exact Fr.up _ _ (by decide))) (fun i hi => ?_)⟩
    rw [e3, up_same]
    by_cases e : i = k
    · rw [e, upd_same]
    · rw [upd_ne _ _ e]
      exact z1 i (by omega)
theorem c_landClear {Q : St → Prop} (hd : 2 ≤ d) (h : ∀ S' : St, Fr [13, 16, 18, 20, 21] S S' → KLC l0 S' → Q S') : k_Land_clear E d S 13 Q := by
  refine w_Land_clear (by omega) la13 (fun S1 e1 S2 e2 => w_Rule_clear ru16 (fun S3 e3 => w_Rule_clear ru18 (fun S4 e4 => ?_)))
  refine c_measure (w := 4) (h := 4) la13 (by omega) (by omega) (fun S5 f5 r5 v0 v1 v2 _ => ?_)
  have g4 : Fr [13, 16, 18, 20, 21] S S4 := by
    have g1 : Fr [13, 16, 18, 20, 21] S S1 := by rw [e1]; exact Fr.up _ _ (by decide)
    have g2 : Fr [13, 16, 18, 20, 21] S S2 := g1.trans (by rw [e2]; exact Fr.up _ _ (by decide))
    have g3 : Fr [13, 16, 18, 20, 21] S S3 := g2.trans (by rw [e3]; exact Fr.up _ _ (by decide))
    exact g3.trans (by rw [e4]; exact Fr.up _ _ (by decide))
  refine h S5 (g4.trans (f5.mono (by decide))) ⟨v0, v1, v2, ?_, ?_, fun i hi => absurd hi (Nat.not_lt_zero i), fun i hi => absurd hi (Nat.not_lt_zero i), ⟨?_, fun i hi => absurd hi (Nat.not_lt_zero i)⟩, ⟨?_, fun i hi => absurd hi (Nat.not_lt_zero i)⟩⟩
  · rw [r5 3 (by omega), e4, up_ne _ _ _ (by decide), e3, up_ne _ _ _ (by decide), e2, up_same, upd_ne _ _ (by decide), e1, up_same, upd_same]
    rfl
  · rw [r5 4 (by omega), e4, up_ne _ _ _ (by decide), e3, up_ne _ _ _ (by decide), e2, up_same, upd_same]
    rfl
  · rw [f5 16 (by decide), e4, up_ne _ _ _ (by decide), e3, up_same, upd_same]
    rfl
  · rw [f5 18 (by decide), e4, up_same, upd_same]
    rfl
theorem c_readText {n : Nat} {Q : Int32 → St → Prop} (hd : 80 ≤ d) (hE : TE E) (ht : t.1 = n) (hn : n ≤ 700) (hb : ∀ i, i < n → t.2 i < 256) (hS : ∀ i, i < n → S 1 i = nI (t.2 i)) (h1 : ∀ (S' : St) (K : Kst), pCty t = .inr K → FrL S S' → KLC K.1 S' → KXC K.2 S' → Q 0 S') (h0 : ∀ (S' : St) (g : Nat × Nat), pCty t = .inl g → FrL S S' → S' 12 2 = nI g.2 → Q (nI g.1) S') : k_Reader_readText E d S (nI n) Q := by
  refine w_Reader_readText (by omega) (fun S1 e1 S2 e2 S3 e3 S4 e4 => ?_)
  have f4 : Fr [12] S S4 := by
    have g1 : Fr [12] S S1 := by rw [e1]; exact Fr.up _ _ (by decide)
    have g2 : Fr [12] S S2 := g1.trans (by rw [e2]; exact Fr.up _ _ (by decide))
    have g3 : Fr [12] S S3 := g2.trans (by rw [e3]; exact Fr.up _ _ (by decide))
    exact g3.trans (by rw [e4]; exact Fr.up _ _ (by decide))
  have v5 : S4 12 5 = nI t.1 := by
    rw [e4, up_same, upd_ne _ _ (by decide), e3, up_same, upd_ne _ _ (by decide), e2, up_same, upd_ne _ _ (by decide), e1, up_same, upd_same, ht]
    unfold zmin
    exact if_neg (show ¬ (700 : Int32) < nI n from nI_nlt (a := 700) hn (by omega))
  have v7 : S4 12 7 = nI 0 := by
    rw [e4, up_same, upd_ne _ _ (by decide), e3, up_same, upd_ne _ _ (by decide), e2, up_same, upd_same]
    rfl
  have v3 : S4 12 3 = 0 := by rw [e4, up_same, upd_ne _ _ (by decide), e3, up_same, upd_same]
  refine c_landClear (by omega) (fun S6 f6 L6 => c_sceneClear (fun S8 f8 X8 => ?_))
  have q12 : S8 12 = S4 12 := by rw [f8 12 (by decide), f6 12 (by decide)]
  have T8 : TxC t S8 := by
    refine ⟨by omega, fun i hi => hb i (by omega), ?_, fun i hi => ?_⟩
    · rw [q12]
      exact v5
    · rw [f8 1 (by decide), f6 1 (by decide), f4 1 (by decide)]
      exact hS i (by omega)
  have fl8 : FrL S S8 := ((FrL_12 f4).trans (FrL_fr f6 (by decide))).trans (FrL_fr f8 (by decide))
  refine c_nextToken (p := 0) (by omega) hE T8 (by rw [q12]; exact v7) (Nat.zero_le _) (fun S10 f10 T10 => ?_)
  have K10 : KC t S10 0 (l0, fun _ _ => 0) := ⟨T10, KLC_12 (KLC_fr L6 (fun k h1 h2 => f8 k (by rw [List.mem_singleton]; omega))) f10.1, KXC_12 X8 f10.1, by rw [f10.2 3 (by decide), q12]; exact v3⟩
  have fl10 : FrL S S10 := fl8.trans (FrL_12 f10.1)
  -- the lines
  have lines : ∀ m k, k + m = 700 → ∀ (S2 : St) (p : Nat) (K : Kst), FrL S S2 → KC t S2 p K → KOk K → k ≤ p → lns t m p K = pCty t → k_Reader_readText_69 E d S2 k Q := by
    intro m
    induction m with
    | zero =>
      intro k hk S2 p K f2 K2 ok kp el
      refine w_Reader_readText_69 (by omega) ?_
      rw [if_pos (nI_le (by omega) (by omega)), K2.2.2.2]
      exact h1 S2 K el.symm f2 K2.2.1 K2.2.2.1
    | succ m ih =>
      intro k hk S2 p K f2 K2 ok kp el
      have t4 := tk_4 (t := t) (p := p)
      refine w_Reader_readText_69 (by omega) ?_
      rw [if_neg (nI_ge (by omega) (by omega)), K2.1.2.2.2.2.1]
      unfold lns at el
      refine ife (fun e => ?_) (fun e => ?_)
      · have e : nI (tk t p) = nI 0 := e
        rw [nI_eq (by omega) (by omega)] at e
        rw [if_pos e] at el
        rw [K2.2.2.2]
        exact h1 S2 K el.symm f2 K2.2.1 K2.2.2.1
      · have e : ¬ nI (tk t p) = nI 0 := e
        rw [nI_eq (by omega) (by omega)] at e
        rw [if_neg e] at el
        refine c_readLine (by omega) hE ok S2 p _ K2 (fun S3 a ea f3 _ K3 => ?_) (fun S3 g eg f3 v3 v2 => ?_)
        · have ea : pLine t K p = .inr a := ea
          rw [ea] at el
          rw [if_neg (by decide)]
          have r := pLine_ok K2.1.2.1 (show t.1 ≤ 700 by omega) ok ea
          exact ih (k + 1) (by omega) S3 a.1 a.2 (f2.trans f3) K3 r.2.2 (by omega) el
        · have eg : pLine t K p = .inl g := eg
          rw [eg] at el
          rw [if_pos rfl, v3]
          exact h0 S3 g el.symm (f2.trans f3) v2
  have k4 : KOk (l0, fun _ _ => 0) := by
    rw [← l0_ms]
    exact KOk_0 (by omega) (by omega)
  refine c_isWord (k := 1) (by omega) hE T10 (by omega) rfl (izb (fun ew => ?_) (fun ew => ?_))
  · have ew : isW t 0 wDowns = true := ew
    have eC : pCty t = match rdN t 1 6 (te t 0) with
      | .inl g => .inl g
      | .inr a => match rdN t 1 6 a.1 with
        | .inl g => .inl g
        | .inr b => match rdS t 59 b.1 with
          | .inl g => .inl g
          | .inr q => lns t 700 q (lMs l0 a.2 b.2, fun _ _ => 0) := by
      unfold pCty
      rw [if_pos ew]
      rfl
    refine w_Reader_readDowns (by omega) (c_nextG (by omega) hE T10 (fun S12 f12 T12 => ?_))
    refine c_readNumber (lo := 1) (hi := 6) (by omega) hE T12 (by omega) (by omega) (fun S14 w ew1 f14 x11 T14 => ?_) (fun S14 g eg f14 v3 v2 => ?_)
    · rw [ew1] at eC
      simp only at eC
      have rw1 := rdN_r T12.2.1 ew1
      rw [if_neg (by decide)]
      refine c_readNumber (lo := 1) (hi := 6) (by omega) hE T14 (by omega) (by omega) (fun S16 h eh f16 y11 T16 => ?_) (fun S16 g eg f16 v3 v2 => ?_)
      · rw [eh] at eC
        simp only at eC
        have rh1 := rdN_r T14.2.1 eh
        rw [if_neg (by decide), x11, y11]
        refine c_measure (w := w) (h := h) la13 rw1.2.2 rh1.2.2 (fun S18 f18 r18 m0 m1 m2 _ => ?_)
        have L16 : KLC l0 S16 := KLC_12 (KLC_12 (KLC_12 K10.2.1 f12.1) f14.1) f16.1
        have X16 : KXC (fun _ _ => 0) S16 := KXC_12 (KXC_12 (KXC_12 K10.2.2.1 f12.1) f14.1) f16.1
        have c18 : ∀ k, k ≠ 13 → k ≠ 20 → k ≠ 21 → S18 k = S16 k := fun k a1 a2 a3 => f18 k (by simp only [List.mem_cons, List.not_mem_nil, or_false]; omega)
        have T18 : TkC t S18 (te t (te t (te t 0))) := TkC_up T16 (c18 12 (by decide) (by decide) (by decide)) (c18 1 (by decide) (by decide) (by decide))
        have L18 : KLC (lMs l0 w h) S18 := by
          obtain ⟨g0, g1, g2, g3, g4, g5, g6, g7, g8⟩ := L16
          refine ⟨m0, m1, m2, ?_, ?_, fun i hi => absurd hi (Nat.not_lt_zero i), fun i hi => absurd hi (Nat.not_lt_zero i), ?_, ?_⟩
          · rw [r18 3 (by omega)]
            exact g3
          · rw [r18 4 (by omega)]
            exact g4
          · rw [c18 16 (by decide) (by decide) (by decide), c18 17 (by decide) (by decide) (by decide)]
            exact g7
          · rw [c18 18 (by decide) (by decide) (by decide), c18 19 (by decide) (by decide) (by decide)]
            exact g8
        have X18 : KXC (fun _ _ => 0) S18 := KXC_fr X16 (c18 23 (by decide) (by decide) (by decide))
        have z3 : S18 12 3 = 0 := by
          rw [c18 12 (by decide) (by decide) (by decide), f16.2 3 (by decide), f14.2 3 (by decide), f12.2 3 (by decide)]
          exact K10.2.2.2
        have fl18 : FrL S S18 := (((fl10.trans (FrL_12 f12.1)).trans (FrL_12 f14.1)).trans (FrL_12 f16.1)).trans (FrL_fr f18 (by decide))
        refine c_readSignG (by omega) hE T18 (c := 59) (by omega) (fun S20 es f20 T20 => ⟨Or.inr rfl, ?_⟩) (fun S20 g es f20 v3 v2 => ⟨Or.inl rfl, ?_⟩)
        · rw [es] at eC
          rw [if_neg (by decide)]
          exact lines 700 0 (by omega) S20 _ _ (fl18.trans (FrL_12 f20.1)) ⟨T20, KLC_12 L18 f20.1, KXC_12 X18 f20.1, by rw [f20.2 3 (by decide)]; exact z3⟩ (KOk_0 rw1.2.2 rh1.2.2) (Nat.zero_le _) eC.symm
        · rw [es] at eC
          rw [if_pos rfl, v3]
          exact h0 S20 g eC (fl18.trans (FrL_12 f20)) v2
      · rw [eg] at eC
        rw [if_pos rfl, if_pos rfl, v3]
        exact h0 S16 g eC (((fl10.trans (FrL_12 f12.1)).trans (FrL_12 f14.1)).trans (FrL_12 f16)) v2
    · rw [eg] at eC
      rw [if_pos rfl, if_pos rfl, v3]
      exact h0 S14 g eC ((fl10.trans (FrL_12 f12.1)).trans (FrL_12 f14)) v2
  · have ew : ¬ isW t 0 wDowns = true := ew
    have eC : pCty t = lns t 700 0 (l0, fun _ _ => 0) := by
      unfold pCty
      rw [if_neg ew]
    exact lines 700 0 (by omega) S10 0 _ fl10 K10 k4 (Nat.zero_le _) eC.symm
end TXT
