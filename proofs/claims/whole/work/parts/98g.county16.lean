/-! COUNTY in the reference: the levels -/
def tpO (k : Nat) (W : List Nat) : Prop := ∀ a V, W = a :: V → a = 0 ∨ stW a < k
theorem tpO_c {k a : Nat} {W : List Nat} (h : a = 0 ∨ stW a < k) : tpO k (a :: W) := fun b V e => by
  cases e
  exact h
theorem tpO_le {j k : Nat} {W : List Nat} (h : tpO j W) (hk : j ≤ k) : tpO k W := fun a V e => by
  have := h a V e
  omega
theorem fls_up {j k : Nat} {c1 c : List Tok} {W1 W : List Nat} (h : fls k c1 W1 = (c, W)) (hjk : j ≤ k) (hW : tpO j W) : fls j c1 W1 = (c, W) := by
  rw [← fls_le hjk W1 c1, h]
  exact fls_stop hW
theorem fls_one {j k a : Nat} {c1 c : List Tok} {W1 W : List Nat} (h : fls k c1 W1 = (c, a :: W)) (hjk : j ≤ k) (ha : ¬ (a = 0 ∨ stW a < j)) (hW : tpO j W) : fls j c1 W1 = (c ++ [(a, 0)], W) := by
  rw [← fls_le hjk W1 c1, h]
  show fls j c (a :: W) = _
  rw [show fls j c (a :: W) = fls j (c ++ [(a, 0)]) W from if_neg ha]
  exact fls_stop hW
section LV
variable {t : Txt} {pe : Bool} {base : Nat} {od : Nat → Int32} {E : zX} {d : Nat} {Q : St → Prop}
/-- what comes of a fault: the end of the expression -/
def Ff (t : Txt) (f : Rs) (S : St) (Q : St → Prop) : Prop := ∀ (S' : St) (g : Nat × Nat), f = .inl g → FB S S' → S' 65 12 = nI g.1 → S' 65 13 = nI g.2 → Q S'
/-- behind the nots: a part -/
def CP (t : Txt) (pe : Bool) (base : Nat) (od : Nat → Int32) (E : zX) (d : Nat) (Q : St → Prop) (f : Nat → Rs) (dep : Nat) : Prop := ∀ (S : St) (p : Nat) (c : List Tok) (W : List Nat) (nt : Int32), RM t pe base od S p c W dep → (∀ (S' : St) (r : Nat × List Tok), f p = .inr r → FR (dep + 1) S S' → RM t pe base od S' r.1 (c ++ r.2) W dep → k_m_expression_39 E d S' 1 Q) → Ff t (f p) S Q → k_m_operand_75 E (d - 1) S nt (fun S8 => k_m_expression_39 E d S8 1 Q)
/-- products (6), sums (5) -/
def CS (t : Txt) (pe : Bool) (base : Nat) (od : Nat → Int32) (E : zX) (d : Nat) (Q : St → Prop) (lev : Nat) (f : Nat → Rs) (ok : Nat → Prop) (dep : Nat) : Prop := ∀ (S : St) (p : Nat) (c : List Tok) (W : List Nat) (nt : Int32), RM t pe base od S p c W dep → tpO lev W → (∀ (S' : St) (r : Nat × List Tok) (c1 : List Tok) (W1 : List Nat), f p = .inr r → FR (dep + 1) S S' → RM t pe base od S' r.1 c1 W1 dep → fls lev c1 W1 = (c ++ r.2, W) → ok r.1 → k_m_expression_39 E d S' 1 Q) → Ff t (f p) S Q → k_m_operand_75 E (d - 1) S nt (fun S8 => k_m_expression_39 E d S8 1 Q)
theorem Ff_ft {f : Rs} {S S1 : St} (h : Ff t f S Q) (hb : FB S S1) : Ff t f S1 Q := fun S' g e f1 a b => h S' g e (hb.trans f1) a b
/-- an operand behind a sign -/
theorem e_op0 {S : St} {p : Nat} {c : List Tok} {W : List Nat} {dep : Nat} (hd : 3 ≤ d) (hR : RM t pe base od S p c W dep) (h : k_m_operand_75 E (d - 1) S 0 (fun S8 => k_m_expression_39 E d S8 1 Q)) : k_m_operand E (d - 1) S 0 (fun S8 => k_m_expression_39 E d S8 1 Q) := by
  refine w_m_operand (by omega) (w_m_operand_4 (by omega) ?_)
  rw [if_neg (by decide)]
  refine RM_good hR ?_
  rw [if_neg (by decide)]
  refine w_m_operand_18 (by omega) (RM_good hR ?_)
  rw [if_neg (by decide), if_pos rfl]
  exact h
/-- at the end of fuel there is no token -/
theorem op_end {op : Nat → Option Nat} (hop : ∀ p k, op p = some k → ¬ tk t p = 0 ∧ 3 ≤ k ∧ k ≤ 10) {p : Nat} (h : t.1 ≤ p) : op p = none := by
  cases e : op p with
  | none => rfl
  | some k =>
    have := (hop p k e).1
    rw [tk_0] at this
    have := tf_ge (t := t) (p := p)
    omega
theorem e_prod {f : Nat → Rs} {D dep : Nat} (hd : 5 ≤ d) (hdep : dep < 9) (hPG : ∀ q, q ≤ t.1 → PG t D q (f q)) (hs : CP t pe base od E d Q f dep) : CS t pe base od E d Q 6 (pLp t (opM t) f) (fun q => opM t q = none) dep := by
  intro S p c W nt hR hW h1 h0
  have hp := hR.1.2.1
  have n7 := hR.1.1.1
  have eP : pLp t (opM t) f p = match f p with
    | .inl g => .inl g
    | .inr r => lpf t (opM t) f 700 r.1 r.2 := rfl
  refine hs S p c W nt hR (fun S1 r er f1 R1 => ?_) (fun S' g eg fb a b => h0 S' g (by rw [eP, eg]) fb a b)
  have pg := hPG p hp
  rw [er] at pg eP
  have loop : ∀ n (S2 : St) (q : Nat) (o c1 : List Tok) (W1 : List Nat), 700 ≤ n + q → FR (dep + 1) S S2 → RM t pe base od S2 q c1 W1 dep → fls 6 c1 W1 = (c ++ o, W) → lpf t (opM t) f n q o = pLp t (opM t) f p → k_m_expression_39 E d S2 1 Q := by
    intro n
    induction n with
    | zero =>
      intro S2 q o c1 W1 hn f2 R2 hf el
      exact h1 S2 (q, o) c1 W1 el.symm f2 R2 hf (op_end (fun p k => opM_k) (by show t.1 ≤ q; omega))
    | succ n ih =>
      intro S2 q o c1 W1 hn f2 R2 hf el
      unfold lpf at el
      cases ho : opM t q with
      | none =>
        rw [ho] at el
        exact h1 S2 (q, o) c1 W1 el.symm f2 R2 hf ho
      | some k =>
        rw [ho] at el
        simp only at el
        have hk := opM_k ho
        have k9 : k = 9 ∨ k = 10 := by
          unfold opM at ho
          split at ho
          · cases ho
            exact Or.inl rfl
          · split at ho
            · cases ho
              exact Or.inr rfl
            · cases ho
        have g1 := te_gt (t := t) (p := q) hk.1
        have g2 := tf_ge (t := t) (p := q)
        refine e_LpM (by omega) R2 ho (fun S3 f3 g76 R3 => e_op0 (by omega) R3 ?_)
        rw [hf] at R3
        have F3 : FR (dep + 1) S S3 := f2.trans (FR_100 f3 (by omega))
        refine hs S3 (te t q) (c ++ o) (k :: W) 0 R3 (fun S4 r4 e4 f4 R4 => ?_) (fun S' g eg fb a b => h0 S' g ?_ ((FB_r F3).trans fb) a b)
        · rw [e4] at el
          have pg4 := hPG (te t q) (te_le R2.1.2.1)
          rw [e4] at pg4
          have a1 := pg4.1
          refine ih S4 r4.1 (o ++ r4.2 ++ [(k, 0)]) _ _ (by omega) (F3.trans f4) R4 ?_ el
          have ea : c ++ (o ++ r4.2 ++ [(k, 0)]) = c ++ o ++ r4.2 ++ [(k, 0)] := by simp only [List.append_assoc]
          rw [ea]
          have e6 : ¬ (k = 0 ∨ stW k < 6) := by
            rcases k9 with rfl | rfl <;> decide
          rw [show fls 6 (c ++ o ++ r4.2) (k :: W) = fls 6 (c ++ o ++ r4.2 ++ [(k, 0)]) W from if_neg e6]
          exact fls_stop hW
        · rw [eg] at el
          exact el.symm
  have a1 := pg.1
  exact loop 700 S1 r.1 r.2 (c ++ r.2) W (by omega) f1 R1 (fls_stop hW) eP.symm
theorem e_sum {f : Nat → Rs} {D dep : Nat} (hd : 5 ≤ d) (hdep : dep < 9) (hPG : ∀ q, q ≤ t.1 → PG t D q (f q)) (hs : CS t pe base od E d Q 6 f (fun q => opM t q = none) dep) : CS t pe base od E d Q 5 (pLp t (opA t) f) (fun q => opM t q = none ∧ opA t q = none) dep := by
  intro S p c W nt hR hW h1 h0
  have hp := hR.1.2.1
  have n7 := hR.1.1.1
  have eP : pLp t (opA t) f p = match f p with
    | .inl g => .inl g
    | .inr r => lpf t (opA t) f 700 r.1 r.2 := rfl
  refine hs S p c W nt hR (tpO_le hW (by omega)) (fun S1 r c0 W0 er f1 R1 hf0 hm0 => ?_) (fun S' g eg fb a b => h0 S' g (by rw [eP, eg]) fb a b)
  have pg := hPG p hp
  rw [er] at pg eP
  have loop : ∀ n (S2 : St) (q : Nat) (o c1 : List Tok) (W1 : List Nat), 700 ≤ n + q → FR (dep + 1) S S2 → RM t pe base od S2 q c1 W1 dep → fls 5 c1 W1 = (c ++ o, W) → opM t q = none → lpf t (opA t) f n q o = pLp t (opA t) f p → k_m_expression_39 E d S2 1 Q := by
    intro n
    induction n with
    | zero =>
      intro S2 q o c1 W1 hn f2 R2 hf hm el
      exact h1 S2 (q, o) c1 W1 el.symm f2 R2 hf ⟨hm, op_end (fun p k => opA_k) (by show t.1 ≤ q; omega)⟩
    | succ n ih =>
      intro S2 q o c1 W1 hn f2 R2 hf hm el
      unfold lpf at el
      cases ho : opA t q with
      | none =>
        rw [ho] at el
        exact h1 S2 (q, o) c1 W1 el.symm f2 R2 hf ⟨hm, ho⟩
      | some k =>
        rw [ho] at el
        simp only at el
        have hk := opA_k ho
        have k9 : k = 7 ∨ k = 8 := by
          unfold opA at ho
          split at ho
          · cases ho
            exact Or.inl rfl
          · split at ho
            · cases ho
              exact Or.inr rfl
            · cases ho
        have g1 := te_gt (t := t) (p := q) hk.1
        have g2 := tf_ge (t := t) (p := q)
        refine e_LpA (by omega) R2 ho (fun S3 f3 g76 R3 => e_op0 (by omega) R3 ?_)
        rw [hf] at R3
        have F3 : FR (dep + 1) S S3 := f2.trans (FR_100 f3 (by omega))
        have t6 : stW k < 6 ∧ ¬ (k = 0 ∨ stW k < 5) := by
          rcases k9 with rfl | rfl <;> decide
        refine hs S3 (te t q) (c ++ o) (k :: W) 0 R3 (tpO_c (Or.inr t6.1)) (fun S4 r4 c4 W4 e4 f4 R4 hf4 hm4 => ?_) (fun S' g eg fb a b => h0 S' g ?_ ((FB_r F3).trans fb) a b)
        · rw [e4] at el
          have pg4 := hPG (te t q) (te_le R2.1.2.1)
          rw [e4] at pg4
          have a1 := pg4.1
          refine ih S4 r4.1 (o ++ r4.2 ++ [(k, 0)]) _ _ (by omega) (F3.trans f4) R4 ?_ hm4 el
          have ea : c ++ (o ++ r4.2 ++ [(k, 0)]) = c ++ o ++ r4.2 ++ [(k, 0)] := by simp only [List.append_assoc]
          rw [ea]
          exact fls_one hf4 (by omega) t6.2 hW
        · rw [eg] at el
          exact el.symm
  have a1 := pg.1
  exact loop 700 S1 r.1 r.2 c0 W0 (by omega) f1 R1 (fls_up hf0 (by omega) hW) hm0 eP.symm
end LV
