/-! COUNTY in the class: numbers, parts, expressions -/
/-- a number from lo to hi; a cell; a sign -/
def rdN (t : Txt) (lo hi p : Nat) : (Nat × Nat) ⊕ (Nat × Nat) := if tk t p = 2 then (if 4 < te t p - tf t p ∨ nv t p < lo ∨ hi < nv t p then .inl (2, tf t p) else .inr (te t p, nv t p)) else .inl (1, tf t p)
def G12 (S S' : St) : Prop := Fr [12] S S' ∧ ∀ i, i ∉ [6, 7, 8, 9, 10, 11] → S' 12 i = S 12 i
theorem G12.refl (S : St) : G12 S S := ⟨Fr.refl _ _, fun _ _ => rfl⟩
theorem G12.trans {S S1 S2 : St} (h1 : G12 S S1) (h2 : G12 S1 S2) : G12 S S2 := ⟨h1.1.trans h2.1, fun i hi => (h2.2 i hi).trans (h1.2 i hi)⟩
theorem G12_f {S S' : St} (h : F12 S S') : G12 S S' := ⟨h.1, fun i hi => h.2 i (fun hm => hi (by simp only [List.mem_cons, List.not_mem_nil, or_false] at hm ⊢; omega))⟩
theorem FrR_g {ru : Nat} {S S' : St} (h : G12 S S') : FrR ru S S' := FrR_12 h.1 h.2
section NC
variable {t : Txt} {ru : Nat} {pe : Bool} {S : St} {E : zX} {d : Nat} {p : Nat} {o : List Tok}
theorem RdC_g {S' : St} {p' : Nat} (h : RdC t ru pe S p o) (f : G12 S S') (hT : TkC t S' p') : RdC t ru pe S' p' o := by
  obtain ⟨_, h2, h3, h4, h5, h6⟩ := h
  refine ⟨hT, h2, ?_, ?_, ?_, ?_⟩
  · rw [f.2 12 (by decide)]
    exact h3
  · rw [f.2 13 (by decide)]
    exact h4
  · rw [f.1 ru (by rw [List.mem_singleton]; omega)]
    exact h5
  · rw [f.1 (ru + 1) (by rw [List.mem_singleton]; omega)]
    exact h6
theorem c_failG {c : Nat} {Q : Int32 → St → Prop} (hT : TkC t S p) (h : ∀ S' : St, Fr [12] S S' → S' 12 3 = nI c → S' 12 2 = nI (tf t p) → Q 0 S') : k_Reader_fail E d S (nI c) (fun x S2 => (x = 0 ∨ x = 1) ∧ Q x S2) :=
  c_fail (fun S' f1 _ v3 v2 => ⟨Or.inl rfl, h S' f1 v3 (by rw [v2]; exact hT.2.2.1)⟩)
theorem c_nextG {Q : St → Prop} (hd : 8 ≤ d) (hE : TE E) (hT : TkC t S p) (h : ∀ S' : St, F12 S S' → TkC t S' (te t p) → Q S') : k_Reader_nextToken E d S Q := c_nextToken hd hE hT.1 hT.2.2.2.1 (te_le hT.2.1) h
theorem c_readNumber {lo hi : Nat} {Q : Int32 → St → Prop} (hd : 10 ≤ d) (hE : TE E) (hT : TkC t S p) (hlo : lo < 100000) (hhi : hi < 100000) (h1 : ∀ (S' : St) (v : Nat), rdN t lo hi p = .inr (te t p, v) → G12 S S' → S' 12 11 = nI v → TkC t S' (te t p) → Q 1 S') (h0 : ∀ (S' : St) (g : Nat × Nat), rdN t lo hi p = .inl g → Fr [12] S S' → S' 12 3 = nI g.1 → S' 12 2 = nI g.2 → Q 0 S') : k_Reader_readNumber E d S (nI lo) (nI hi) Q := by
  have t4 := tk_4 (t := t) (p := p)
  refine w_Reader_readNumber (by omega) ?_
  rw [hT.2.2.2.2.1]
  refine ife (fun e => ?_) (fun e => ?_)
  · have e : nI (tk t p) = nI 2 := e
    rw [nI_eq (by omega) (by omega)] at e
    obtain ⟨g10, g9⟩ := hT.2.2.2.2.2 e
    have bad : (4 < te t p - tf t p ∨ nv t p < lo ∨ hi < nv t p) → ∀ S' : St, Fr [12] S S' → S' 12 3 = nI 2 → S' 12 2 = nI (tf t p) → Q 0 S' := fun hb S' f v3 v2 => h0 S' (2, tf t p) (by unfold rdN; rw [if_pos e, if_pos hb]) f v3 v2
    rw [g10]
    refine izb (fun l4 => ?_) (fun l4 => ?_)
    · exact c_failG (c := 2) hT (bad (Or.inl l4))
    · have n9 := nv_le e l4
      rw [g9 l4]
      refine ife (fun b => ?_) (fun b => ?_)
      · rw [nI_ltI (by omega) (by omega)] at b
        exact c_failG (c := 2) hT (bad (Or.inr (Or.inl b)))
      · rw [nI_ltI (by omega) (by omega)] at b
        refine ife (fun c => fun S3 e3 => ?_) (fun c => ?_)
        · rw [nI_leI (by omega) (by omega)] at c
          have gg : G12 S S3 := by
            rw [e3]
            exact ⟨Fr.up _ _ (by decide), fun i hi => by rw [up_same, upd_ne _ _ (fun e => hi (by rw [e]; decide))]⟩
          have T3 : TkC t S3 p := by
            obtain ⟨⟨a1, a2, a3, a4⟩, a5, a6, a7, a8, a9⟩ := hT
            have u : ∀ i, i ≠ 11 → S3 12 i = S 12 i := fun i hi => by rw [e3, up_same, upd_ne _ _ hi]
            refine ⟨⟨a1, a2, ?_, ?_⟩, a5, ?_, ?_, ?_, ?_⟩
            · rw [u 5 (by decide)]
              exact a3
            · rw [e3, up_ne _ _ _ (by decide)]
              exact a4
            · rw [u 6 (by decide)]
              exact a6
            · rw [u 7 (by decide)]
              exact a7
            · rw [u 8 (by decide)]
              exact a8
            · rw [u 9 (by decide), u 10 (by decide)]
              exact a9
          refine c_nextG (by omega) hE T3 (fun S5 f5 T5 => ?_)
          refine h1 S5 (nv t p) (by unfold rdN; rw [if_pos e, if_neg (by omega)]) (gg.trans (G12_f f5)) ?_ T5
          rw [f5.2 11 (by decide), e3, up_same, upd_same]
        · rw [nI_leI (by omega) (by omega)] at c
          exact c_failG (c := 2) hT (bad (Or.inr (Or.inr (by omega))))
  · have e : ¬ nI (tk t p) = nI 2 := e
    rw [nI_eq (by omega) (by omega)] at e
    exact c_failG (c := 1) hT (fun S' f v3 v2 => h0 S' (1, tf t p) (by unfold rdN; rw [if_neg e]) f v3 v2)
theorem c_readPart {w : Nat} {ex : Nat → Rs} (hd : 14 ≤ d) (hE : TE E) (hw : w < 6) (hx : CNt t ru pe ex (fun S Q => k_Reader_readExpr E (d - 1) S (nI (w + 1)) Q)) (hPG : ∀ D q, q ≤ t.1 → (D = 5 * (5 - w) + 1) → PG t D q (ex q)) : CNt t ru pe (pPart t pe ex) (fun S Q => k_Reader_readPart E d S (nI w) Q) := by
  intro S p o0 Q hR hl h1 h0
  have hp := hR.1.2.1
  have n7 := hR.1.1.1
  have t4 := tk_4 (t := t) (p := p)
  have g1 := tf_ge (t := t) (p := p)
  refine w_Reader_readPart (by omega) ?_
  rw [hR.1.2.2.2.2.1]
  refine ife (fun e => ?_) (fun e => ?_)
  · have e : nI (tk t p) = nI 2 := e
    rw [nI_eq (by omega) (by omega)] at e
    have g2 := te_gt (t := t) (p := p) (by omega)
    have g3 := te_le (t := t) hp
    refine c_readNumber (lo := 0) (hi := 9999) (by omega) hE hR.1 (by omega) (by omega) (fun S2 v ev f2 v11 T2 => ?_) (fun S2 g eg f2 v3 v2 => ?_)
    · rw [if_neg (by decide)]
      unfold rdN at ev
      rw [if_pos e] at ev
      by_cases hb : 4 < te t p - tf t p ∨ nv t p < 0 ∨ 9999 < nv t p
      · rw [if_pos hb] at ev
        cases ev
      · rw [if_neg hb] at ev
        cases ev
        refine c_add (x := (0, nv t p)) (RdC_g hR f2 T2) (by omega) ?_ (fun S4 f4 R4 => ?_)
        · rw [v11]
          rfl
        · refine h1 S4 (te t p, [(0, nv t p)]) ?_ ((FrR_g f2).trans f4) R4
          unfold pPart
          rw [if_pos e, if_neg (by omega)]
    · rw [if_pos rfl]
      refine h0 S2 g ?_ (fr_12 f2) v3 v2
      unfold rdN at eg
      rw [if_pos e] at eg
      by_cases hb : 4 < te t p - tf t p ∨ nv t p < 0 ∨ 9999 < nv t p
      · rw [if_pos hb] at eg
        cases eg
        unfold pPart
        rw [if_pos e]
        by_cases l4 : 4 < te t p - tf t p
        · rw [if_pos l4]
        · have := nv_le e l4
          omega
      · rw [if_neg hb] at eg
        cases eg
  · have e : ¬ nI (tk t p) = nI 2 := e
    rw [nI_eq (by omega) (by omega)] at e
    refine ife (fun e1 => ?_) (fun e1 => ?_)
    · have e1 : nI (tk t p) = nI 1 := e1
      rw [nI_eq (by omega) (by omega)] at e1
      have g2 := te_gt (t := t) (p := p) (by omega)
      have g3 := te_le (t := t) hp
      have eP : pPart t pe ex p = match vlu t pe p with
          | none => .inl (3, tf t p)
          | some k => .inr (te t p, [(1, k)]) := by
        unfold pPart
        rw [if_neg e, if_pos e1]
        rfl
      have l60 : k_Reader_readPart_60 E d S (oI (vlu t pe p)) Q := by
        refine w_Reader_readPart_60 (by omega) ?_
        cases hv : vlu t pe p with
        | none =>
          rw [hv] at eP
          rw [if_pos (show oI none = -1 from rfl)]
          exact c_failR (c := 3) hR (fun S' f v3 v2 => h0 S' _ eP f v3 v2)
        | some k =>
          have k5 := vlu_lt hv
          rw [hv] at eP
          rw [if_neg (show ¬ oI (some k) = -1 from oI_ne (show k < 2 ^ 31 by omega))]
          refine c_add (x := (1, k)) hR (by omega) rfl (fun S4 f4 R4 => ?_)
          refine c_next (by omega) hE R4 (fun S5 f5 R5 => ?_)
          exact h1 S5 _ eP (f4.trans f5) R5
      have cv := c_valueOf (E := E) (d := d - 1) (pe := pe) (Q := fun x6 S7 => k_Reader_readPart_60 E d S7 x6 Q) (by omega) hE hR.1 l60
      rw [hR.2.2.2.1]
      refine izb (fun hpe => ?_) (fun hpe => ?_)
      · rw [if_pos hpe] at cv
        exact cv
      · rw [if_neg hpe] at cv
        exact cv
    · have e1 : ¬ nI (tk t p) = nI 1 := e1
      rw [nI_eq (by omega) (by omega)] at e1
      rw [if_neg (show ¬ (6 : Int32) ≤ nI w from nI_ge (b := 6) hw (by omega))]
      have eP : pPart t pe ex p = if isS t p 40 then (match ex (te t p) with
          | .inl f => .inl f
          | .inr r => if isS t r.1 41 then .inr (te t r.1, r.2) else .inl (1, tf t r.1)) else .inl (1, tf t p) := by
        unfold pPart
        rw [if_neg e, if_neg e1]
        rfl
      refine c_isSign hR.1 (c := 40) (by omega) (izb (fun es => ?_) (fun es => ?_))
      · rw [if_pos es] at eP
        have g2 := te_gt (t := t) (p := p) (isS_k es)
        refine c_next (by omega) hE hR (fun S3 f3 R3 => ?_)
        rw [nI_1]
        refine hx S3 (te t p) o0 _ R3 (by omega) (fun S4 r e4 f4 R4 => ?_) (fun S4 g e4 f4 v3 v2 => ?_)
        · rw [e4] at eP
          simp only at eP
          rw [if_neg (by decide)]
          refine c_readSign (by omega) hE R4 (c := 41) (by omega) (fun S5 es5 f5 R5 => ?_) (fun S5 es5 f5 v3 v2 => ?_)
          · rw [if_neg (by decide)]
            rw [if_pos es5] at eP
            exact h1 S5 _ eP ((f3.trans f4).trans f5) R5
          · rw [if_pos rfl]
            rw [if_neg es5] at eP
            exact h0 S5 _ eP ((f3.trans f4).1.trans f5) v3 v2
        · rw [e4] at eP
          rw [if_pos rfl]
          exact h0 S4 g eP (f3.1.trans f4) v3 v2
      · rw [if_neg es] at eP
        exact c_failR (c := 1) hR (fun S' f v3 v2 => h0 S' _ eP f v3 v2)
/-- too deep: nothing is read -/
theorem c_ex0 (hd : 16 ≤ d) (hE : TE E) : CNt t ru pe (pEx t pe 0) (fun S Q => k_Reader_readExpr E d S (nI 6) Q) := by
  intro S p o0 Q hR hl h1 h0
  have t4 := tk_4 (t := t) (p := p)
  have eP : pEx t pe 0 p = .inl (if tk t p = 2 ∨ tk t p = 1 ∨ isS t p 40 = true then 2 else 1, tf t p) := rfl
  refine w_Reader_readExpr (by omega) ?_
  rw [if_neg (by decide), hR.1.2.2.2.2.1]
  have bad : (tk t p = 2 ∨ tk t p = 1 ∨ isS t p 40 = true) → ∀ S' : St, Fr [12, ru, ru + 1] S S' → S' 12 3 = nI 2 → S' 12 2 = nI (tf t p) → Q 0 S' := fun hb S' f v3 v2 => h0 S' _ eP f (by rw [if_pos hb]; exact v3) v2
  refine ife (fun e => ?_) (fun e => ?_)
  · have e : nI (tk t p) = nI 2 := e
    rw [nI_eq (by omega) (by omega)] at e
    exact c_failR (c := 2) hR (bad (Or.inl e))
  · have e : ¬ nI (tk t p) = nI 2 := e
    rw [nI_eq (by omega) (by omega)] at e
    refine ife (fun e1 => ?_) (fun e1 => ?_)
    · have e1 : nI (tk t p) = nI 1 := e1
      rw [nI_eq (by omega) (by omega)] at e1
      exact c_failR (c := 2) hR (bad (Or.inr (Or.inl e1)))
    · have e1 : ¬ nI (tk t p) = nI 1 := e1
      rw [nI_eq (by omega) (by omega)] at e1
      refine c_isSign hR.1 (c := 40) (by omega) (izb (fun es => ?_) (fun es => ?_))
      · exact c_failR (c := 2) hR (bad (Or.inr (Or.inr es)))
      · have fin : ∀ S' : St, Fr [12, ru, ru + 1] S S' → S' 12 3 = nI 1 → S' 12 2 = nI (tf t p) → Q 0 S' := fun S' f v3 v2 => h0 S' _ eP f (by rw [if_neg (by intro g; rcases g with g | g | g; exact e g; exact e1 g; exact es g)]; exact v3) v2
        have nw : isW t p (wTx 6) = false := by
          unfold isW
          exact decide_eq_false (fun g => e1 g.1)
        refine w_Reader_readAnd (by omega) (w_Reader_readNot (by omega) (w_Reader_readNot_2 (by omega) ?_))
        rw [if_neg (by decide)]
        refine c_isWord (k := 6) (by omega) hE hR.1 (by omega) rfl ?_
        rw [zb_f (by rw [nw]; decide), if_pos rfl]
        refine w_Reader_readNot_27 (by omega) ?_
        rw [if_neg (by decide)]
        refine w_Reader_readTest (by omega) (w_Reader_readSum (by omega) (w_Reader_readProduct (by omega) (w_Reader_readPart (by omega) ?_)))
        rw [hR.1.2.2.2.2.1, if_neg (show ¬ nI (tk t p) = 2 from fun g => e ((nI_eq (b := 2) (by omega) (by omega)).mp g)), if_neg (show ¬ nI (tk t p) = 1 from fun g => e1 ((nI_eq (b := 1) (by omega) (by omega)).mp g)), if_pos (by decide)]
        refine c_failR (c := 1) hR (fun S' f v3 v2 => ?_)
        rw [if_pos rfl, if_pos rfl, if_pos rfl, if_pos rfl, if_pos rfl, if_pos rfl]
        exact fin S' f v3 v2
theorem c_ex (hE : TE E) : ∀ n w d, n + w = 6 → 8 * n + 20 ≤ d → CNt t ru pe (pEx t pe n) (fun S Q => k_Reader_readExpr E d S (nI w) Q)
  | 0, w, d, hw, hd => by
    rw [show w = 6 by omega]
    exact c_ex0 (by omega) hE
  | n + 1, w, d, hw, hd => by
    have ih := c_ex hE n
    have g6 : ∀ q, q ≤ t.1 → PG t (5 * n + 1) q (pPart t pe (pEx t pe n) q) := fun q hq => PG_part hq (by omega) (fun q hq => PG_ex n q hq)
    have g5 := fun q (hq : q ≤ t.1) => PG_lp (op := opM t) hq (fun p k => opM_k) g6
    have g4 := fun q (hq : q ≤ t.1) => PG_lp (op := opA t) hq (fun p k => opA_k) g5
    have g3 := fun q (hq : q ≤ t.1) => PG_test hq g4
    have g2 := fun q (hq : q ≤ t.1) => PG_not hq g3
    have g1 := fun q (hq : q ≤ t.1) => PG_lp (op := opN t) hq (fun p k => opN_k) g2
    have p6 : ∀ d', 8 * n + 21 ≤ d' → CNt t ru pe (pPart t pe (pEx t pe n)) (fun S Q => k_Reader_readPart E d' S (nI w) Q) := fun d' h => c_readPart (by omega) hE (by omega) (ih (w + 1) (d' - 1) (by omega) (by omega)) (fun D q hq hD => by
      rw [hD, show 5 - w = n by omega]
      exact PG_ex n q hq)
    have p5 : ∀ d', 8 * n + 22 ≤ d' → CNt t ru pe (pLp t (opM t) (pPart t pe (pEx t pe n))) (fun S Q => k_Reader_readProduct E d' S (nI w) Q) := fun d' h => c_readProduct (by omega) hE g6 (p6 (d' - 1) (by omega))
    have p4 : ∀ d', 8 * n + 23 ≤ d' → CNt t ru pe (pLp t (opA t) (pLp t (opM t) (pPart t pe (pEx t pe n)))) (fun S Q => k_Reader_readSum E d' S (nI w) Q) := fun d' h => c_readSum (by omega) hE g5 (p5 (d' - 1) (by omega))
    have p3 := c_readTest (d := d - 1 - 1 - 1) (w := w) (by omega) hE g4 (fun d' h1 h2 => p4 d' (by omega))
    have p2 := c_readNot (d := d - 1 - 1) (by omega) hE g3 p3
    have p1 := c_readAnd (d := d - 1) (by omega) hE g2 p2
    exact c_readExpr (by omega) (by omega) hE g1 p1
end NC
