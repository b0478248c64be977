/-! COUNTY in the reference: a whole expression -/
theorem fls_suf {k : Nat} : ∀ (W : List Nat) (c : List Tok), ∃ U, W = U ++ (fls k c W).2 ∧ ∀ u, u ∈ U → ¬ u = 0
  | [], _ => ⟨[], rfl, fun u hu => by cases hu⟩
  | a :: W, c => by
    by_cases h : a = 0 ∨ stW a < k
    · rw [show fls k c (a :: W) = (c, a :: W) from if_pos h]
      exact ⟨[], rfl, fun u hu => by cases hu⟩
    · rw [show fls k c (a :: W) = fls k (c ++ [(a, 0)]) W from if_neg h]
      obtain ⟨U, e, hU⟩ := fls_suf W (c ++ [(a, 0)])
      refine ⟨a :: U, by rw [List.cons_append, ← e], fun u hu => ?_⟩
      rcases List.mem_cons.mp hu with g | g
      · rw [g]
        exact fun g => h (Or.inl g)
      · exact hU u g
section XP
variable {t : Txt} {pe : Bool} {base : Nat} {od : Nat → Int32} {E : zX} {d : Nat} {Q : St → Prop}
def okE (t : Txt) (dep : Nat) (S : St) (q : Nat) : Prop := (okT t S dep q ∧ opN t q = none) ∧ opO t q = none
theorem e_deeper {S : St} {p : Nat} {c : List Tok} {W : List Nat} {dep : Nat} {Q : St → Prop} (hd : 1 ≤ d) (hR : RM t pe base od S p c W dep) (hdep : dep < 6) (h : ∀ S' : St, FR (dep + 1) S S' → S' 76 (dep + 1) = 0 → RM t pe base od S' p c W (dep + 1) → Q S') : k_m_deeper E d S Q := by
  obtain ⟨hT, h2, h3, h4, h5, h6, h7, h8, h9, h10, h11⟩ := hR
  refine w_m_deeper (by omega) ?_
  rw [h7, if_neg (show ¬ (6 : Int32) ≤ nI dep from nI_ge (b := 6) hdep (by omega)), nI_1]
  refine fun S1 e1 => ⟨dep + 1, by rw [e1, up_same, upd_same], by omega, fun S2 e2 => ?_⟩
  have u : ∀ i, i ≠ 33 → S2 65 i = S 65 i := fun i hi => by rw [e2, up_ne _ _ _ (by decide), e1, up_same, upd_ne _ _ hi]
  have o : ∀ k, k ≠ 65 → k ≠ 76 → S2 k = S k := fun k a b => by rw [e2, up_ne _ _ _ b, e1, up_ne _ _ _ a]
  refine h S2 ⟨fun k hk => o k (fun e => hk (by rw [e]; decide)) (fun e => hk (by rw [e]; decide)), fun i hi => u i (by omega), fun j hj => by rw [e2, up_same, upd_ne _ _ (by omega), e1, up_ne _ _ _ (by decide)]⟩ (by rw [e2, up_same, upd_same]) ⟨TkM_k hT (fun i hi => u i (fun e => hi (by rw [e]; decide))) (o 69 (by decide) (by decide)), ?_, ?_, ?_, ?_, ?_, ?_, ?_, ?_, h10, h11⟩
  · rw [u 12 (by decide)]
    exact h2
  · rw [u 29 (by decide)]
    exact h3
  · rw [o 74 (by decide) (by decide)]
    exact h4
  · rw [u 32 (by decide)]
    exact h5
  · rw [o 75 (by decide) (by decide)]
    exact h6
  · rw [e2, up_ne _ _ _ (by decide), e1, up_same, upd_same]
  · rw [u 30 (by decide)]
    exact h8
  · rw [u 31 (by decide)]
    exact h9
theorem e_deeperX {S : St} {p : Nat} {c : List Tok} {W : List Nat} {Q : St → Prop} (hd : 2 ≤ d) (hR : RM t pe base od S p c W 6) (h : ∀ (S' : St) (g : Nat × Nat), pEx t pe 0 p = .inl g → FR 100 S S' → FaM S' g → Q S') : k_m_deeper E d S Q := by
  have t4 := tk_4 (t := t) (p := p)
  have eP : pEx t pe 0 p = .inl (if tk t p = 2 ∨ tk t p = 1 ∨ isS t p 40 = true then 2 else 1, tf t p) := rfl
  refine w_m_deeper (by omega) ?_
  rw [hR.2.2.2.2.2.2.1, if_pos (by decide), hR.1.2.2.2.1]
  have two : (tk t p = 2 ∨ tk t p = 1 ∨ isS t p 40 = true) → k_m_wrong E (d - 1) S 2 (fun S2 => Q S2) := fun hb => e_wrongR (v := 2) hR (by omega) (fun S' f F _ _ => h S' _ (by rw [eP, if_pos hb]) f F)
  refine ife (fun e => ?_) (fun e => ?_)
  · have e : nI (tk t p) = nI 2 := e
    rw [nI_eq (by omega) (by omega)] at e
    exact two (Or.inl e)
  · have e : ¬ nI (tk t p) = nI 2 := e
    rw [nI_eq (by omega) (by omega)] at e
    refine ife (fun e1 => ?_) (fun e1 => ?_)
    · have e1 : nI (tk t p) = nI 1 := e1
      rw [nI_eq (by omega) (by omega)] at e1
      exact two (Or.inr (Or.inl e1))
    · have e1 : ¬ nI (tk t p) = nI 1 := e1
      rw [nI_eq (by omega) (by omega)] at e1
      refine e_isSignM hR.1 (c := 40) (by omega) (izb (fun es => two (Or.inr (Or.inr es))) (fun es => ?_))
      exact e_wrongR (v := 1) hR (by omega) (fun S' f F _ _ => h S' _ (by rw [eP, if_neg (fun g => by rcases g with g | g | g; exact e g; exact e1 g; exact es g)]) f F)
theorem e_partC {n dep : Nat} (hd : 7 ≤ d) (hn : n + dep = 6) (h1d : 1 ≤ dep) (hx : 1 ≤ n → CN t pe base od E d Q 1 (pEx t pe n) (okE t (dep + 1)) (dep + 1)) : CP t pe base od E d Q (pPart t pe (pEx t pe n)) dep := by
  intro S p c W nt hR h1 h0
  have t4 := tk_4 (t := t) (p := p)
  refine w_m_operand_75 (by omega) (RM_good hR ?_)
  rw [if_neg (by decide)]
  refine e_isSignM hR.1 (c := 40) (by omega) (izb (fun es => ?_) (fun es => ?_))
  · have k3 := (of_decide_eq_true es).1
    have eP : pPart t pe (pEx t pe n) p = match pEx t pe n (te t p) with
        | .inl f => .inl f
        | .inr r => if isS t r.1 41 then .inr (te t r.1, r.2) else .inl (1, tf t r.1) := by
      unfold pPart
      rw [if_neg (by omega), if_neg (by omega), if_pos es]
      rfl
    refine w_m_operand_96 (by omega) ?_
    rw [if_neg (by decide)]
    refine e_pushNext (k := 0) (by omega) hR (by omega) rfl (isS_k es) (fun S3 f3 g3 R3 => ?_)
    by_cases hdep : dep < 6
    · refine e_deeper (by omega) R3 hdep (fun S4 f4 z4 R4 => ?_)
      have F4 : FR (dep + 1) S S4 := (FR_100 f3 (by omega)).trans f4
      refine hx (by omega) S4 (te t p) c (0 :: W) R4 (tpO_c (Or.inl rfl)) z4 (fun S5 r c1 W1 er f5 R5 hf5 ok5 => ?_) (fun S' g eg fb a b => h0 S' g (by rw [eP, eg]) ((FB_r F4).trans fb) a b)
      rw [er] at eP
      simp only at eP
      have F5 : FR (dep + 1) S S5 := F4.trans f5
      obtain ⟨⟨ok1, ok2⟩, ok3⟩ := ok5
      refine e_LpE (by omega) (show dep + 1 < 9 by omega) R5 ok2 ok3 ok1.1 ok1.2.1 ok1.2.2 (fun e41 _ => ?_) (fun hno => ?_)
      · rw [if_pos e41] at eP
        have f0 : fls 0 c1 W1 = (c ++ r.2, 0 :: W) := by
          rw [← fls_le (show 0 ≤ 1 by omega) W1 c1, hf5]
          exact if_pos (Or.inl rfl)
        refine e_closes (by omega) (by omega) R5 f0 (fun S6 f6 g6 R6 => ?_)
        exact h1 S6 _ eP (F5.trans (FR_100 f6 (by omega))) R6
      · have e41 : ¬ isS t r.1 41 = true := fun e => hno ⟨e, by
          obtain ⟨U, eU, _⟩ := fls_suf (k := 1) W1 c1
          rw [hf5] at eU
          rw [eU]
          exact List.mem_append_right _ List.mem_cons_self⟩
        rw [if_neg e41] at eP
        refine w_m_expression_340 (by omega) (RM_good R5 ?_)
        rw [if_neg (by decide), R5.2.2.2.2.2.2.1, if_neg (show ¬ nI (dep + 1) ≤ 1 from nI_ge (a := 1) (by omega) (by omega))]
        refine e_wrongR (v := 1) R5 (by omega) (fun S6 f6 F6 _ _ => ?_)
        obtain ⟨q1, q2, _, _, tp, w, h29, h32, hb, hw⟩ := F6
        exact e_tailJ (by omega) h29 h32 hb hw (fun S' fb a b => h0 S' _ eP (((FB_r F5).trans (FB_r f6)).trans fb) (a.trans q1) (b.trans q2))
    · have hdep6 : dep = 6 := by omega
      subst hdep6
      have hn0 : n = 0 := by omega
      subst hn0
      refine e_deeperX (by omega) R3 (fun S4 g eg f4 F4 => ?_)
      rw [eg] at eP
      refine w_m_operand_4 (by omega) ?_
      rw [if_neg (by decide)]
      refine e_badG F4 ?_
      rw [if_pos rfl]
      refine w_m_part (by omega) (e_badG F4 ?_)
      rw [if_pos rfl]
      exact e_LpF (by omega) F4 (fun S' fb a b => h0 S' g eP (((FB_r f3).trans (FB_r f4)).trans fb) a b)
  · refine w_m_operand_96 (by omega) ?_
    rw [if_pos rfl]
    refine w_m_operand_4 (by omega) ?_
    rw [if_pos rfl]
    refine e_partR (ex := pEx t pe n) (by omega) hR es (fun S' r er f g R' => h1 S' r er (FR_100 f (by omega)) R') (fun S' g eg f F => ?_)
    exact e_LpF (by omega) F (fun S2 fb a b => h0 S2 g eg ((FB_r f).trans fb) a b)
theorem e_exM (hd : 7 ≤ d) : ∀ n dep, n + dep = 7 → 1 ≤ n → 1 ≤ dep → CN t pe base od E d Q 1 (pEx t pe n) (okE t dep) dep
  | 0, _, _, h1, _ => absurd h1 (by omega)
  | n + 1, dep, hn, _, hdep => by
    have ih := fun h => e_exM hd n (dep + 1) (by omega) h (by omega)
    have g6 : ∀ q, q ≤ t.1 → PG t (5 * n + 1) q (pPart t pe (pEx t pe n) q) := fun q hq => PG_part hq (by omega) (fun q hq => PG_ex n q hq)
    have g5 := fun q (hq : q ≤ t.1) => PG_lp (op := opM t) hq (fun p k => opM_k) g6
    have g4 := fun q (hq : q ≤ t.1) => PG_lp (op := opA t) hq (fun p k => opA_k) g5
    have g3 := fun q (hq : q ≤ t.1) => PG_test hq g4
    have g2 := fun q (hq : q ≤ t.1) => PG_not hq g3
    have g1 := fun q (hq : q ≤ t.1) => PG_lp (op := opN t) hq (fun p k => opN_k) g2
    have p6 := e_partC (n := n) (dep := dep) hd (by omega) hdep ih
    have p5 := e_prod (by omega) (by omega) g6 p6
    have p4 := e_sum (by omega) (by omega) g5 p5
    have p3 := e_test (by omega) (by omega) p4
    have p2 := e_not (by omega) (by omega) p3
    have p1 := e_wloop (s := 2) (kk := 4) (w := wAnd) (op := opN t) (by omega) (by omega) (Or.inl ⟨rfl, rfl, rfl⟩) (fun q => rfl) g2 p2
    exact e_wloop (s := 1) (kk := 3) (w := wOr) (op := opO t) (by omega) (by omega) (Or.inr ⟨rfl, rfl, rfl⟩) (fun q => rfl) g1 p1
/-- a rule is read -/
theorem e_expression {S : St} {p : Nat} (hd : 8 ≤ d) (hT : TkM t S p) (hg : S 65 12 = 0) (h29 : S 65 29 = nI base) (hb : base + 2 ≤ 2 * p) (hod : S 74 = od) (h1 : ∀ (S' : St) (r : Nat × List Tok), pEx t pe 6 p = .inr r → FB S S' → TkM t S' r.1 → S' 65 12 = 0 → S' 65 29 = nI (base + ofL r.2 + 1) → CodeB pe base od (S' 74) r.2 → S' 74 (base + ofL r.2) = 0 → base + ofL r.2 + 2 ≤ 2 * r.1 → Q S') (h0 : Ff t (pEx t pe 6 p) S Q) : k_m_expression E d S (nI (if pe then 0 else 4)) (nI (if pe then 4 else 8)) Q := by
  have p7 : p ≤ 700 := Nat.le_trans hT.2.1 hT.1.1
  refine w_m_expression (by omega) (w_m_isGood ?_)
  rw [hg, if_pos rfl, if_neg (by decide)]
  refine fun S3 e3 S4 e4 S5 e5 S6 e6 => ?_
  have u : ∀ i, i ≠ 30 → i ≠ 31 → i ≠ 32 → i ≠ 33 → S6 65 i = S 65 i := fun i a b c e => by rw [e6, up_same, upd_ne _ _ e, e5, up_same, upd_ne _ _ c, e4, up_same, upd_ne _ _ b, e3, up_same, upd_ne _ _ a]
  have o : ∀ k, k ≠ 65 → S6 k = S k := fun k hk => by rw [e6, up_ne _ _ _ hk, e5, up_ne _ _ _ hk, e4, up_ne _ _ _ hk, e3, up_ne _ _ _ hk]
  have T6 : TkM t S6 p := by
    obtain ⟨⟨a1, a2, a3, a4⟩, b1, b2, b3, b4, b5, b6, b7, b8⟩ := hT
    have hw : wM S6 = wM S := by rw [e6, wM_up _ (by decide), e5, wM_up _ (by decide), e4, wM_up _ (by decide), e3, wM_up _ (by decide)]
    refine ⟨⟨a1, a2, ?_, ?_⟩, b1, ?_, ?_, ?_, ?_, ?_, ?_, ?_⟩
    · rw [u 15 (by decide) (by decide) (by decide) (by decide)]
      exact a3
    · rw [o 69 (by decide), u 13 (by decide) (by decide) (by decide) (by decide)]
      exact a4
    · rw [u 16 (by decide) (by decide) (by decide) (by decide)]
      exact b2
    · rw [u 17 (by decide) (by decide) (by decide) (by decide)]
      exact b3
    · rw [u 18 (by decide) (by decide) (by decide) (by decide)]
      exact b4
    · rw [u 19 (by decide) (by decide) (by decide) (by decide)]
      exact b5
    · rw [u 20 (by decide) (by decide) (by decide) (by decide)]
      exact b6
    · rw [u 21 (by decide) (by decide) (by decide) (by decide)]
      exact b7
    · rw [hw]
      exact b8
  have fb6 : FB S S6 := ⟨fun k hk => o k (fun e => hk (by rw [e]; decide)), fun i hi => u i (by omega) (by omega) (by omega) (by omega)⟩
  have R6 : RM t pe base od S6 p [] [] 0 := by
    refine ⟨T6, ?_, ?_, ⟨trivial, fun i _ => by rw [o 74 (by decide), hod]⟩, ?_, trivial, ?_, ?_, ?_, by show base + 0 + 0 + 2 ≤ 2 * p; omega, Nat.zero_le _⟩
    · rw [u 12 (by decide) (by decide) (by decide) (by decide)]
      exact hg
    · rw [u 29 (by decide) (by decide) (by decide) (by decide)]
      exact h29
    · rw [e6, up_same, upd_ne _ _ (by decide), e5, up_same, upd_same]
      rfl
    · rw [e6, up_same, upd_same]
      rfl
    · rw [e6, up_same, upd_ne _ _ (by decide), e5, up_same, upd_ne _ _ (by decide), e4, up_same, upd_ne _ _ (by decide), e3, up_same, upd_same]
    · rw [e6, up_same, upd_ne _ _ (by decide), e5, up_same, upd_ne _ _ (by decide), e4, up_same, upd_same]
  refine e_deeper (by omega) R6 (by omega) (fun S7 f7 z7 R7 => e_op1 (by omega) ?_)
  have fb7 : FB S S7 := fb6.trans (FB_r f7)
  refine e_exM (by omega) 6 1 (by omega) (by omega) (by omega) S7 p [] [] R7 (fun a V e => by cases e) z7 (fun S8 r c1 W1 er f8 R8 hf8 ok8 => ?_) (Ff_ft h0 fb7)
  rw [List.nil_append] at hf8
  obtain ⟨⟨ok1, ok2⟩, ok3⟩ := ok8
  have p8 : r.1 ≤ 700 := Nat.le_trans R8.1.2.1 R8.1.1.1
  have no0 : ¬ 0 ∈ W1 := fun hm => by
    obtain ⟨U, eU, hU⟩ := fls_suf (k := 1) W1 c1
    rw [hf8, List.append_nil] at eU
    rw [eU] at hm
    exact hU 0 hm rfl
  refine e_LpE (by omega) (by omega) R8 ok2 ok3 ok1.1 ok1.2.1 ok1.2.2 (fun _ hm => absurd hm no0) (fun _ => ?_)
  refine w_m_expression_340 (by omega) (RM_good R8 ?_)
  rw [if_neg (by decide), R8.2.2.2.2.2.2.1, if_pos (by decide)]
  refine w_m_drops (by omega) (e_drops (k := 0) (by omega) (by omega) p8 W1 c1 S8 R8 (fun S9 f9 g9 R9 => ?_))
  have f0 : fls 0 c1 W1 = (r.2, []) := by
    rw [← fls_le (show 0 ≤ 1 by omega) W1 c1, hf8]
    rfl
  rw [f0] at R9
  have R9 : RM t pe base od S9 r.1 r.2 [] 1 := R9
  obtain ⟨hT9, a2, a3, a4, a5, a6, a7, a8, a9, a10, a11⟩ := R9
  have a10 : base + ofL r.2 + 0 + 2 ≤ 2 * r.1 := a10
  refine w_m_puts ⟨base + ofL r.2, a3, by omega, fun S10 e10 S11 e11 => ?_⟩
  have v : ∀ i, i ≠ 29 → S11 65 i = S9 65 i := fun i hi => by rw [e11, up_same, upd_ne _ _ hi, e10, up_ne _ _ _ (by decide)]
  have w : ∀ k, k ≠ 65 → k ≠ 74 → S11 k = S9 k := fun k x y => by rw [e11, up_ne _ _ _ x, e10, up_ne _ _ _ y]
  refine h1 S11 r er (((fb7.trans (FB_r f8)).trans (FB_r f9)).trans ⟨fun k hk => w k (fun e => hk (by rw [e]; decide)) (fun e => hk (by rw [e]; decide)), fun i hi => v i (by omega)⟩) (TkM_k hT9 (fun i hi => v i (fun e => hi (by rw [e]; decide))) (w 69 (by decide) (by decide))) ?_ ?_ ?_ ?_ (by omega)
  · rw [v 12 (by decide)]
    exact a2
  · rw [e11, up_same, upd_same, e10, up_ne _ _ _ (by decide), a3, nI_1]
  · rw [e11, up_ne _ _ _ (by decide), e10, up_same]
    exact ⟨CodeAt_of r.2 base a4.1 (fun i x y => upd_ne _ _ (by omega)), fun i hi => by rw [upd_ne _ _ (by omega)]; exact a4.2 i hi⟩
  · rw [e11, up_ne _ _ _ (by decide), e10, up_same, upd_same]
end XP
