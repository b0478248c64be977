section LV2
variable {t : Txt} {pe : Bool} {base : Nat} {od : Nat → Int32} {E : zX} {d : Nat} {Q : St → Prop}
/-- at the end of a test: nothing stronger is left -/
def okT (t : Txt) (S : St) (dep q : Nat) : Prop := opM t q = none ∧ opA t q = none ∧ (S 76 dep = 0 → opT t q = none)
def CT (t : Txt) (pe : Bool) (base : Nat) (od : Nat → Int32) (E : zX) (d : Nat) (Q : St → Prop) (f : Nat → Rs) (dep : Nat) : Prop := ∀ (S : St) (p : Nat) (c : List Tok) (W : List Nat) (nt : Int32), RM t pe base od S p c W dep → tpO 4 W → S 76 dep = 0 → (∀ (S' : St) (r : Nat × List Tok) (c1 : List Tok) (W1 : List Nat), f p = .inr r → FR dep S S' → RM t pe base od S' r.1 c1 W1 dep → fls 4 c1 W1 = (c ++ r.2, W) → okT t S' dep r.1 → k_m_expression_39 E d S' 1 Q) → Ff t (f p) S Q → k_m_operand_75 E (d - 1) S nt (fun S8 => k_m_expression_39 E d S8 1 Q)
theorem e_test {f : Nat → Rs} {dep : Nat} (hd : 5 ≤ d) (hdep : dep < 9) (hs : CS t pe base od E d Q 5 f (fun q => opM t q = none ∧ opA t q = none) dep) : CT t pe base od E d Q (pTest t f) dep := by
  intro S p c W nt hR hW h76 h1 h0
  have eP : pTest t f p = match f p with
    | .inl f => .inl f
    | .inr r => match opT t r.1 with
      | none => .inr r
      | some k => match f (te t r.1) with
        | .inl f => .inl f
        | .inr q => .inr (q.1, r.2 ++ q.2 ++ [(k, 0)]) := rfl
  refine hs S p c W nt hR (tpO_le hW (by omega)) (fun S1 r c1 W1 er f1 R1 hf1 hm1 => ?_) (fun S' g eg fb a b => h0 S' g (by rw [eP, eg]) fb a b)
  rw [er] at eP
  simp only at eP
  have s76 : S1 76 dep = 0 := by rw [f1.2.2 dep (by omega)]; exact h76
  have hf4 := fls_up hf1 (show 4 ≤ 5 by omega) hW
  cases ho : opT t r.1 with
  | none =>
    rw [ho] at eP
    exact h1 S1 r c1 W1 eP (f1.mono (by omega)) R1 hf4 ⟨hm1.1, hm1.2, fun _ => ho⟩
  | some k =>
    rw [ho] at eP
    simp only at eP
    have k9 : k = 5 ∨ k = 6 := by
      unfold opT at ho
      split at ho
      · cases ho
        exact Or.inl rfl
      · split at ho
        · cases ho
          exact Or.inr rfl
        · cases ho
    refine e_LpT (by omega) hdep R1 s76 ho (fun S3 f3 g76 R3 => e_op0 (by omega) R3 ?_)
    rw [hf4] at R3
    have F3 : FR dep S S3 := (f1.mono (by omega)).trans f3
    have t5 : stW k < 5 ∧ ¬ (k = 0 ∨ stW k < 4) := by
      rcases k9 with rfl | rfl <;> decide
    refine hs S3 (te t r.1) (c ++ r.2) (k :: W) 0 R3 (tpO_c (Or.inr t5.1)) (fun S4 r4 c4 W4 e4 f4 R4 hf hm4 => ?_) (fun S' g eg fb a b => h0 S' g ?_ ((FB_r F3).trans fb) a b)
    · rw [e4] at eP
      have q76 : S4 76 dep = 1 := by rw [f4.2.2 dep (by omega)]; exact g76
      refine h1 S4 _ c4 W4 eP (F3.trans (f4.mono (by omega))) R4 ?_ ⟨hm4.1, hm4.2, fun g => absurd (g.symm.trans q76) (by decide)⟩
      have ea : c ++ (r.2 ++ r4.2 ++ [(k, 0)]) = c ++ r.2 ++ r4.2 ++ [(k, 0)] := by simp only [List.append_assoc]
      rw [ea]
      exact fls_one hf (by omega) t5.2 hW
    · rw [eg] at eP
      exact eP
/-- an operand that may begin with nots -/
def CN (t : Txt) (pe : Bool) (base : Nat) (od : Nat → Int32) (E : zX) (d : Nat) (Q : St → Prop) (lev : Nat) (f : Nat → Rs) (ok : St → Nat → Prop) (dep : Nat) : Prop := ∀ (S : St) (p : Nat) (c : List Tok) (W : List Nat), RM t pe base od S p c W dep → tpO lev W → S 76 dep = 0 → (∀ (S' : St) (r : Nat × List Tok) (c1 : List Tok) (W1 : List Nat), f p = .inr r → FR dep S S' → RM t pe base od S' r.1 c1 W1 dep → fls lev c1 W1 = (c ++ r.2, W) → ok S' r.1 → k_m_expression_39 E d S' 1 Q) → Ff t (f p) S Q → k_m_operand_4 E (d - 1) S 1 1 (fun S8 => k_m_expression_39 E d S8 1 Q)
theorem fls_rep {c : List Tok} {W : List Nat} (hW : tpO 3 W) : ∀ j, fls 3 c (List.replicate j 2 ++ W) = (c ++ List.replicate j (2, 0), W)
  | 0 => by
    show fls 3 c W = (c ++ [], W)
    rw [List.append_nil]
    exact fls_stop hW
  | j + 1 => by
    show fls 3 c (2 :: (List.replicate j 2 ++ W)) = _
    rw [show fls 3 c (2 :: (List.replicate j 2 ++ W)) = fls 3 (c ++ [(2, 0)]) (List.replicate j 2 ++ W) from if_neg (by decide)]
    have : ∀ (j : Nat) (c : List Tok), fls 3 c (List.replicate j 2 ++ W) = (c ++ List.replicate j (2, 0), W) := fun j => by
      induction j with
      | zero =>
        intro c
        show fls 3 c W = (c ++ [], W)
        rw [List.append_nil]
        exact fls_stop hW
      | succ j ih =>
        intro c
        show fls 3 c (2 :: (List.replicate j 2 ++ W)) = _
        rw [show fls 3 c (2 :: (List.replicate j 2 ++ W)) = fls 3 (c ++ [(2, 0)]) (List.replicate j 2 ++ W) from if_neg (by decide), ih, List.append_assoc]
        rfl
    rw [this, List.append_assoc]
    rfl
theorem e_not {f : Nat → Rs} {dep : Nat} (hd : 5 ≤ d) (hdep : dep < 9) (hs : CT t pe base od E d Q f dep) : CN t pe base od E d Q 3 (pNot t f) (fun S q => okT t S dep q) dep := by
  intro S p c W hR hW h76 h1 h0
  have n7 := hR.1.1.1
  have eP : pNot t f p = if (nts t 6 p).1 = 6 ∧ isW t (nts t 6 p).2 wNot = true then .inl (2, tf t (nts t 6 p).2) else match f (nts t 6 p).2 with
    | .inl f => .inl f
    | .inr q => .inr (q.1, q.2 ++ List.replicate (nts t 6 p).1 (2, 0)) := rfl
  generalize hN : nts t 6 p = N at eP
  -- behind the nots
  have behind : ∀ (S2 : St), FR dep S S2 → RM t pe base od S2 N.2 c (List.replicate N.1 2 ++ W) dep → S2 76 dep = 0 → ¬ (N.1 = 6 ∧ isW t N.2 wNot = true) → k_m_operand_75 E (d - 1) S2 1 (fun S8 => k_m_expression_39 E d S8 1 Q) := by
    intro S2 f2 R2 z76 hno
    rw [if_neg hno] at eP
    have t4 : tpO 4 (List.replicate N.1 2 ++ W) := by
      cases N.1 with
      | zero => exact tpO_le hW (by omega)
      | succ j => exact tpO_c (a := 2) (Or.inr (by decide))
    refine hs S2 N.2 c _ 1 R2 t4 z76 (fun S4 r c4 W4 e4 f4 R4 hf4 ok4 => ?_) (fun S' g eg fb a b => h0 S' g (by rw [eP, eg]) ((FB_r f2).trans fb) a b)
    rw [e4] at eP
    refine h1 S4 _ c4 W4 eP (f2.trans f4) R4 ?_ ok4
    rw [← fls_le (show 3 ≤ 4 by omega) W4 c4, hf4]
    show fls 3 (c ++ r.2) (List.replicate N.1 2 ++ W) = _
    rw [fls_rep hW, List.append_assoc]
  -- too many
  have many : ∀ (S2 : St) (W2 : List Nat), FR dep S S2 → RM t pe base od S2 N.2 c W2 dep → N.1 = 6 → isW t N.2 wNot = true → k_m_wrong E (d - 1 - 1) S2 2 (fun S6 => k_m_operand_50 E (d - 1) S6 1 6 (fun S8 => k_m_expression_39 E d S8 1 Q)) := by
    intro S2 W2 f2 R2 hn hw
    rw [if_pos ⟨hn, hw⟩] at eP
    refine e_wrongR (v := 2) R2 (by omega) (fun S3 f3 F3 u3 o3 => ?_)
    refine w_m_operand_50 (by omega) (e_badG F3 ?_)
    rw [if_pos rfl]
    refine w_m_operand_18 (by omega) (e_badG F3 ?_)
    rw [if_pos rfl]
    refine w_m_operand_75 (by omega) (e_badG F3 ?_)
    rw [if_pos rfl]
    refine w_m_operand_96 (by omega) ?_
    rw [if_pos rfl]
    refine w_m_operand_4 (by omega) ?_
    rw [if_pos rfl]
    refine w_m_part (by omega) (e_badG F3 ?_)
    rw [if_pos rfl]
    exact e_LpF (by omega) F3 (fun S' fb a b => h0 S' _ eP (((FB_r f2).trans (FB_r f3)).trans fb) a b)
  have main : ∀ n k, k + n = 6 → ∀ (S2 : St) (q : Nat), FR dep S S2 → RM t pe base od S2 q c (List.replicate k 2 ++ W) dep → S2 76 dep = 0 → ((nts t n q).1 + k, (nts t n q).2) = N → k_m_operand_18 E (d - 1) S2 1 k (fun S8 => k_m_expression_39 E d S8 1 Q) := by
    intro n
    induction n with
    | zero =>
      intro k hk S2 q f2 R2 z76 en
      have hk6 : k = 6 := by omega
      subst hk6
      have e1 : N = (6, q) := by
        rw [← en]
        rfl
      refine w_m_operand_18 (by omega) (RM_good R2 ?_)
      rw [if_neg (by decide), if_neg (by decide)]
      refine e_knownWord (by omega) R2.1 ?_
      refine ife (fun g => ?_) (fun g => ?_)
      · have hw : isW t q wNot = true := by
          cases e : kwd t q with
          | none =>
            rw [e] at g
            cases g
          | some m =>
            have := (fstF_inv _ _ e).2.1
            rw [e] at g
            have g : nI m = nI 16 := g
            rw [nI_eq (by omega) (by omega)] at g
            rw [g] at e
            exact (kwd_iff (by omega)).mp e
        rw [if_pos rfl]
        have m2 := many S2 (List.replicate 6 2 ++ W) f2
        rw [e1] at m2
        exact m2 R2 rfl hw
      · have hw : ¬ isW t q wNot = true := fun hw => g (by rw [(kwd_iff (k := 16) (by omega)).mpr hw]; rfl)
        have b2 := behind S2 f2
        rw [e1] at b2
        exact b2 R2 z76 (fun a => hw a.2)
    | succ n ih =>
      intro k hk S2 q f2 R2 z76 en
      refine w_m_operand_18 (by omega) (RM_good R2 ?_)
      rw [if_neg (by decide), if_neg (by decide)]
      refine e_knownWord (by omega) R2.1 ?_
      unfold nts at en
      refine ife (fun g => ?_) (fun g => ?_)
      · have hw : isW t q wNot = true := by
          cases e : kwd t q with
          | none =>
            rw [e] at g
            cases g
          | some m =>
            have := (fstF_inv _ _ e).2.1
            rw [e] at g
            have g : nI m = nI 16 := g
            rw [nI_eq (by omega) (by omega)] at g
            rw [g] at e
            exact (kwd_iff (by omega)).mp e
        rw [if_pos hw] at en
        rw [if_neg (show ¬ nI k = nI 6 from fun g => by rw [nI_eq (by omega) (by omega)] at g; omega)]
        refine w_m_operand_50 (by omega) (RM_good R2 ?_)
        rw [if_neg (by decide)]
        refine e_pushNext (k := 2) (by omega) R2 (by omega) rfl (isW_k hw) (fun S3 f3 g76 R3 => ?_)
        refine ih (k + 1) (by omega) S3 (te t q) (f2.trans (FR_100 f3 (by omega))) R3 (by rw [g76]; exact z76) ?_
        rw [← en]
        show ((nts t n (te t q)).1 + (k + 1), _) = ((nts t n (te t q)).1 + 1 + k, _)
        rw [show (nts t n (te t q)).1 + (k + 1) = (nts t n (te t q)).1 + 1 + k by omega]
      · have hw : ¬ isW t q wNot = true := fun hw => g (by rw [(kwd_iff (k := 16) (by omega)).mpr hw]; rfl)
        rw [if_neg hw] at en
        have e1 : N = (k, q) := by
          rw [← en]
          show (0 + k, q) = _
          rw [Nat.zero_add]
        have b2 := behind S2 f2
        rw [e1] at b2
        exact b2 R2 z76 (fun a => hw a.2)
  refine w_m_operand_4 (by omega) ?_
  rw [if_neg (by decide)]
  refine RM_good hR ?_
  rw [if_neg (by decide)]
  exact main 6 0 (by omega) S p (FR.refl _ _) hR h76 hN
theorem e_op1 {S : St} (hd : 3 ≤ d) (h : k_m_operand_4 E (d - 1) S 1 1 (fun S8 => k_m_expression_39 E d S8 1 Q)) : k_m_operand E (d - 1) S 1 (fun S8 => k_m_expression_39 E d S8 1 Q) := w_m_operand (by omega) h
/-- and (s = 2), or (s = 1) -/
theorem e_wloop {f : Nat → Rs} {D dep s kk : Nat} {op : Nat → Option Nat} {w : List Nat} {ok : St → Nat → Prop} (hd : 5 ≤ d) (hdep : dep < 9) (hsk : (s = 2 ∧ kk = 4 ∧ w = wAnd) ∨ (s = 1 ∧ kk = 3 ∧ w = wOr)) (hop : ∀ q, op q = if isW t q w then some kk else none) (hPG : ∀ q, q ≤ t.1 → PG t D q (f q)) (hs : CN t pe base od E d Q (s + 1) f ok dep) : CN t pe base od E d Q s (pLp t op f) (fun S q => ok S q ∧ op q = none) dep := by
  intro S p c W hR hW h76 h1 h0
  have hp := hR.1.2.1
  have n7 := hR.1.1.1
  have hopk : ∀ p k, op p = some k → ¬ tk t p = 0 ∧ 3 ≤ k ∧ k ≤ 10 := fun p k e => by
    rw [hop] at e
    split at e
    · rename_i g
      cases e
      exact ⟨isW_k g, by omega, by omega⟩
    · cases e
  have eP : pLp t op f p = match f p with
    | .inl g => .inl g
    | .inr r => lpf t op f 700 r.1 r.2 := rfl
  refine hs S p c W hR (tpO_le hW (by omega)) h76 (fun S1 r c0 W0 er f1 R1 hf0 hm0 => ?_) (fun S' g eg fb a b => h0 S' g (by rw [eP, eg]) fb a b)
  have pg := hPG p hp
  rw [er] at pg eP
  have loop : ∀ n (S2 : St) (q : Nat) (o c1 : List Tok) (W1 : List Nat), 700 ≤ n + q → FR dep S S2 → RM t pe base od S2 q c1 W1 dep → fls s c1 W1 = (c ++ o, W) → ok S2 q → lpf t op f n q o = pLp t op f p → k_m_expression_39 E d S2 1 Q := by
    intro n
    induction n with
    | zero =>
      intro S2 q o c1 W1 hn f2 R2 hf hm el
      exact h1 S2 (q, o) c1 W1 el.symm f2 R2 hf ⟨hm, op_end hopk (by show t.1 ≤ q; omega)⟩
    | succ n ih =>
      intro S2 q o c1 W1 hn f2 R2 hf hm el
      unfold lpf at el
      cases ho : op q with
      | none =>
        rw [ho] at el
        exact h1 S2 (q, o) c1 W1 el.symm f2 R2 hf ⟨hm, ho⟩
      | some k =>
        rw [ho] at el
        simp only at el
        have hw : isW t q w = true ∧ k = kk := by
          rw [hop] at ho
          split at ho
          · rename_i g
            cases ho
            exact ⟨g, rfl⟩
          · cases ho
        obtain ⟨hw, hkk⟩ := hw
        subst hkk
        have g1 := te_gt (t := t) (p := q) (isW_k hw)
        have g2 := tf_ge (t := t) (p := q)
        have hd2 : (s = 2 ∧ k = 4 ∧ isW t q wAnd = true) ∨ (s = 1 ∧ k = 3 ∧ isW t q wOr = true) := by
          rcases hsk with ⟨a1, a2, a3⟩ | ⟨a1, a2, a3⟩
          · rw [a3] at hw
            exact Or.inl ⟨a1, a2, hw⟩
          · rw [a3] at hw
            exact Or.inr ⟨a1, a2, hw⟩
        refine e_LpW (s := s) (by omega) hdep R2 hd2 (fun S3 f3 g76 R3 => e_op1 (by omega) ?_)
        rw [hf] at R3
        have F3 : FR dep S S3 := f2.trans f3
        have ts : stW k < s + 1 ∧ ¬ (k = 0 ∨ stW k < s) := by
          rcases hsk with ⟨rfl, rfl, _⟩ | ⟨rfl, rfl, _⟩ <;> decide
        refine hs S3 (te t q) (c ++ o) (k :: W) R3 (tpO_c (Or.inr ts.1)) g76 (fun S4 r4 c4 W4 e4 f4 R4 hf4 hm4 => ?_) (fun S' g eg fb a b => h0 S' g ?_ ((FB_r F3).trans fb) a b)
        · rw [e4] at el
          have pg4 := hPG (te t q) (te_le R2.1.2.1)
          rw [e4] at pg4
          have a1 := pg4.1
          refine ih S4 r4.1 (o ++ r4.2 ++ [(k, 0)]) _ _ (by omega) (F3.trans f4) R4 ?_ hm4 el
          have ea : c ++ (o ++ r4.2 ++ [(k, 0)]) = c ++ o ++ r4.2 ++ [(k, 0)] := by simp only [List.append_assoc]
          rw [ea]
          exact fls_one hf4 (by omega) ts.2 hW
        · rw [eg] at el
          exact el.symm
  have a1 := pg.1
  exact loop 700 S1 r.1 r.2 c0 W0 (by omega) f1 R1 (fls_up hf0 (by omega) hW) hm0 eP.symm
end LV2
