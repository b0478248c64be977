/-! COUNTY in the reference: at an operator -/
section DSP
variable {t : Txt} {pe : Bool} {base : Nat} {od : Nat → Int32} {S : St} {E : zX} {d : Nat} {p : Nat} {c : List Tok} {W : List Nat} {dep : Nat} {Q : St → Prop}
theorem FR_100 {S S' : St} (h : FR 100 S S') (hd : dep ≤ 100) : FR dep S S' := h.mono hd
/-- drops, one more waits, the next token -/
theorem e_dropPush {k s : Nat} {v : Int32} {Q : St → Prop} (hd : 3 ≤ d) (hR : RM t pe base od S p c W dep) (hs : s ≤ 6) (hk : 2 ≤ k ∧ k ≤ 10) (hv : v = nI (acW k)) (ht : ¬ tk t p = 0) (h : ∀ S' : St, FR 100 S S' → S' 76 = S 76 → TkM t S' p → RM t pe base od S' p (fls s c W).1 (fls s c W).2 dep → k_m_waitsFor E d S' v Q) : k_m_drops E d S (nI s) (fun S2 => k_m_waitsFor E d S2 v Q) := by
  have p7 : p ≤ 700 := Nat.le_trans hR.1.2.1 hR.1.1.1
  refine w_m_drops (by omega) (e_drops (by omega) hs p7 W c S hR (fun S' f g R' => h S' f g R'.1 R'))
theorem e_pushNext {k : Nat} {v : Int32} {Q : St → Prop} (hd : 3 ≤ d) (hR : RM t pe base od S p c W dep) (hk : k = 0 ∨ (2 ≤ k ∧ k ≤ 10)) (hv : v = nI (acW k)) (ht : ¬ tk t p = 0) (h : ∀ S' : St, FR 100 S S' → S' 76 = S 76 → RM t pe base od S' (te t p) c (k :: W) dep → Q S') : k_m_waitsFor E d S v (fun S4 => k_m_goes E d S4 Q) := by
  have p7 : p ≤ 700 := Nat.le_trans hR.1.2.1 hR.1.1.1
  have g1 := te_gt (t := t) (p := p) ht
  have g2 := tf_ge (t := t) (p := p)
  have b1 := hR.2.2.2.2.2.2.2.2.2.1
  have b2 := hR.2.2.2.2.2.2.2.2.2.2
  refine e_waitsNext (by omega) hR hk hv ht p7 (fun S1 a1 a2 a3 a4 a5 a6 a7 a8 a9 a10 a11 => ?_)
  have hl : (k :: W).length = W.length + 1 := rfl
  refine e_nextM (by omega) a4 (fun S' f T' => h S' (a2.trans (FR_ft f)) (by rw [f.1 76 (by decide)]; exact a3) ⟨T', ?_, ?_, ?_, ?_, ?_, ?_, ?_, ?_, by omega, by omega⟩)
  · rw [f.2 12 (by omega)]
    exact a5
  · rw [f.2 29 (by omega)]
    exact a6
  · rw [f.1 74 (by decide)]
    exact a7
  · rw [f.2 32 (by omega)]
    exact a1
  · rw [f.1 75 (by decide)]
    exact a8
  · rw [f.2 33 (by omega)]
    exact a9
  · rw [f.2 30 (by omega)]
    exact a10
  · rw [f.2 31 (by omega)]
    exact a11
theorem sg_kwd {c0 : Nat} (h : isS t p c0 = true) : kwd t p = none := fstF_none 17 (fun k hk => decide_eq_false (fun g => by have := (of_decide_eq_true h).1; omega))
theorem sg_ne {c0 c1 : Nat} (h : isS t p c0 = true) (hne : c0 ≠ c1) : ¬ isS t p c1 = true := fun g => hne ((of_decide_eq_true h).2.symm.trans (of_decide_eq_true g).2)
/-- the loop's head, when no word and, or, stands there -/
theorem e_head0 (hd : 3 ≤ d) (hR : RM t pe base od S p c W dep) (hk : kwd t p = none) (h : (isS t p 60 = true ∨ isS t p 61 = true) → k_m_expression_142 E d S 1 Q) (h0 : ¬ (isS t p 60 = true ∨ isS t p 61 = true) → k_m_expression_201 E d S 1 Q) : k_m_expression_39 E d S 1 Q := by
  refine w_m_expression_39 (by omega) ?_
  rw [if_neg (by decide)]
  refine RM_good hR ?_
  rw [if_neg (by decide)]
  refine e_knownWord (by omega) hR.1 ?_
  rw [hk, if_neg (by decide), if_neg (by decide)]
  refine e_isSignM hR.1 (c := 60) (by omega) (izb (fun e => h (Or.inl e)) (fun e => ?_))
  exact e_isSignM hR.1 (c := 61) (by omega) (izb (fun e2 => h (Or.inr e2)) (fun e2 => h0 (fun g => g.elim e e2)))
theorem e_LpM {k : Nat} (hd : 4 ≤ d) (hR : RM t pe base od S p c W dep) (ho : opM t p = some k) (h : ∀ S' : St, FR 100 S S' → S' 76 = S 76 → RM t pe base od S' (te t p) (fls 6 c W).1 (k :: (fls 6 c W).2) dep → k_m_operand E (d - 1) S' 0 (fun S8 => k_m_expression_39 E d S8 1 Q)) : k_m_expression_39 E d S 1 Q := by
  have p7 : p ≤ 700 := Nat.le_trans hR.1.2.1 hR.1.1.1
  have l274 : ∀ c0, isS t p c0 = true → (c0 = 42 ∧ k = 9 ∨ c0 = 47 ∧ k = 10) → k_m_expression_274 E d S 1 Q := fun c0 hs hc => by
    refine w_m_expression_274 (by omega) (w_m_drops (by omega) (e_drops (k := 6) (by omega) (by omega) p7 W c S hR (fun S2 f2 g2 R2 => ?_)))
    refine e_isSignM R2.1 (c := 42) (by omega) (izb (fun e => ?_) (fun e => ?_))
    · have hk : k = 9 := by
        rcases hc with hc | hc
        · exact hc.2
        · exact absurd e (sg_ne hs (by omega))
      subst hk
      exact e_pushNext (k := 9) (by omega) R2 (by omega) rfl (isS_k hs) (fun S' f g R' => h S' (f2.trans f) (by rw [g, g2]) R')
    · have hk : k = 10 := by
        rcases hc with hc | hc
        · rw [hc.1] at hs
          exact absurd hs e
        · exact hc.2
      subst hk
      exact e_pushNext (k := 10) (by omega) R2 (by omega) rfl (isS_k hs) (fun S' f g R' => h S' (f2.trans f) (by rw [g, g2]) R')
  have go : ∀ c0, isS t p c0 = true → (c0 = 42 ∧ k = 9 ∨ c0 = 47 ∧ k = 10) → k_m_expression_39 E d S 1 Q := fun c0 hs hc => by
    refine e_head0 (by omega) hR (sg_kwd hs) (fun g => ?_) (fun _ => ?_)
    · rcases g with g | g
      · exact absurd g (sg_ne hs (by omega))
      · exact absurd g (sg_ne hs (by omega))
    · refine w_m_expression_201 (by omega) (e_isSignM hR.1 (c := 43) (by omega) ?_)
      rw [zb_f (sg_ne hs (by omega)), if_pos rfl]
      refine e_isSignM hR.1 (c := 45) (by omega) ?_
      rw [zb_f (sg_ne hs (by omega)), if_pos rfl]
      refine e_isSignM hR.1 (c := 42) (by omega) (izb (fun e => l274 c0 hs hc) (fun e => ?_))
      refine e_isSignM hR.1 (c := 47) (by omega) (izb (fun e2 => l274 c0 hs hc) (fun e2 => ?_))
      rcases hc with hc | hc
      · rw [hc.1] at hs
        exact absurd hs e
      · rw [hc.1] at hs
        exact absurd hs e2
  unfold opM at ho
  split at ho
  · rename_i e
    cases ho
    exact go 42 e (Or.inl ⟨rfl, rfl⟩)
  · split at ho
    · rename_i e
      cases ho
      exact go 47 e (Or.inr ⟨rfl, rfl⟩)
    · cases ho
theorem e_LpA {k : Nat} (hd : 4 ≤ d) (hR : RM t pe base od S p c W dep) (ho : opA t p = some k) (h : ∀ S' : St, FR 100 S S' → S' 76 = S 76 → RM t pe base od S' (te t p) (fls 5 c W).1 (k :: (fls 5 c W).2) dep → k_m_operand E (d - 1) S' 0 (fun S8 => k_m_expression_39 E d S8 1 Q)) : k_m_expression_39 E d S 1 Q := by
  have p7 : p ≤ 700 := Nat.le_trans hR.1.2.1 hR.1.1.1
  have l219 : ∀ c0, isS t p c0 = true → (c0 = 43 ∧ k = 7 ∨ c0 = 45 ∧ k = 8) → k_m_expression_219 E d S 1 Q := fun c0 hs hc => by
    refine w_m_expression_219 (by omega) (w_m_drops (by omega) (e_drops (k := 5) (by omega) (by omega) p7 W c S hR (fun S2 f2 g2 R2 => ?_)))
    refine e_isSignM R2.1 (c := 43) (by omega) (izb (fun e => ?_) (fun e => ?_))
    · have hk : k = 7 := by
        rcases hc with hc | hc
        · exact hc.2
        · exact absurd e (sg_ne hs (by omega))
      subst hk
      exact e_pushNext (k := 7) (by omega) R2 (by omega) rfl (isS_k hs) (fun S' f g R' => h S' (f2.trans f) (by rw [g, g2]) R')
    · have hk : k = 8 := by
        rcases hc with hc | hc
        · rw [hc.1] at hs
          exact absurd hs e
        · exact hc.2
      subst hk
      exact e_pushNext (k := 8) (by omega) R2 (by omega) rfl (isS_k hs) (fun S' f g R' => h S' (f2.trans f) (by rw [g, g2]) R')
  have go : ∀ c0, isS t p c0 = true → (c0 = 43 ∧ k = 7 ∨ c0 = 45 ∧ k = 8) → k_m_expression_39 E d S 1 Q := fun c0 hs hc => by
    refine e_head0 (by omega) hR (sg_kwd hs) (fun g => ?_) (fun _ => ?_)
    · rcases g with g | g
      · exact absurd g (sg_ne hs (by omega))
      · exact absurd g (sg_ne hs (by omega))
    · refine w_m_expression_201 (by omega) (e_isSignM hR.1 (c := 43) (by omega) (izb (fun e => l219 c0 hs hc) (fun e => ?_)))
      refine e_isSignM hR.1 (c := 45) (by omega) (izb (fun e2 => l219 c0 hs hc) (fun e2 => ?_))
      rcases hc with hc | hc
      · rw [hc.1] at hs
        exact absurd hs e
      · rw [hc.1] at hs
        exact absurd hs e2
  unfold opA at ho
  split at ho
  · rename_i e
    cases ho
    exact go 43 e (Or.inl ⟨rfl, rfl⟩)
  · split at ho
    · rename_i e
      cases ho
      exact go 45 e (Or.inr ⟨rfl, rfl⟩)
    · cases ho
/-- tested or not at this depth -/
theorem RM_76 {v : Int32} {S' : St} (hR : RM t pe base od S p c W dep) (e : S' = up S 76 dep v) : RM t pe base od S' p c W dep ∧ FR dep S S' ∧ S' 76 dep = v := by
  obtain ⟨hT, h2, h3, h4, h5, h6, h7, h8, h9, h10, h11⟩ := hR
  have o : ∀ k, k ≠ 76 → S' k = S k := fun k hk => by rw [e, up_ne _ _ _ hk]
  refine ⟨⟨TkM_k hT (fun i _ => by rw [o 65 (by decide)]) (o 69 (by decide)), ?_, ?_, ?_, ?_, ?_, ?_, ?_, ?_, h10, h11⟩, ⟨fun k hk => o k (fun e => hk (by rw [e]; decide)), fun i _ => by rw [o 65 (by decide)], fun j hj => by rw [e, up_same, upd_ne _ _ (by omega)]⟩, by rw [e, up_same, upd_same]⟩
  · rw [o 65 (by decide)]
    exact h2
  · rw [o 65 (by decide)]
    exact h3
  · rw [o 74 (by decide)]
    exact h4
  · rw [o 65 (by decide)]
    exact h5
  · rw [o 75 (by decide)]
    exact h6
  · rw [o 65 (by decide)]
    exact h7
  · rw [o 65 (by decide)]
    exact h8
  · rw [o 65 (by decide)]
    exact h9
/-- one more waits, tested is set, the next token -/
theorem e_pushSet {k : Nat} {v w : Int32} {Q : St → Prop} (hd : 3 ≤ d) (hdep : dep < 9) (hR : RM t pe base od S p c W dep) (hk : 2 ≤ k ∧ k ≤ 10) (hv : v = nI (acW k)) (ht : ¬ tk t p = 0) (h : ∀ S' : St, FR dep S S' → S' 76 dep = w → RM t pe base od S' (te t p) c (k :: W) dep → Q S') : k_m_waitsFor E d S v (fun S2 => ∃ m4 : Nat, (S2 65 33) = nI m4 ∧ m4 < 9 ∧ ∀ S3, S3 = up S2 76 m4 w → k_m_goes E d S3 Q) := by
  have p7 : p ≤ 700 := Nat.le_trans hR.1.2.1 hR.1.1.1
  have g1 := te_gt (t := t) (p := p) ht
  have g2 := tf_ge (t := t) (p := p)
  have b1 := hR.2.2.2.2.2.2.2.2.2.1
  have b2 := hR.2.2.2.2.2.2.2.2.2.2
  refine e_waitsNext (by omega) hR (by omega) hv ht p7 (fun S1 a1 a2 a3 a4 a5 a6 a7 a8 a9 a10 a11 => ⟨dep, a9, hdep, fun S3 e3 => ?_⟩)
  have hl : (k :: W).length = W.length + 1 := rfl
  have o : ∀ k, k ≠ 76 → S3 k = S1 k := fun k hk => by rw [e3, up_ne _ _ _ hk]
  have T3 : TkM t S3 p := TkM_k a4 (fun i _ => by rw [o 65 (by decide)]) (o 69 (by decide))
  have F3 : FR dep S S3 := (FR_100 a2 (by omega)).trans ⟨fun k hk => o k (fun e => hk (by rw [e]; decide)), fun i _ => by rw [o 65 (by decide)], fun j hj => by rw [e3, up_same, upd_ne _ _ (by omega)]⟩
  refine e_nextM (by omega) T3 (fun S' f T' => h S' (F3.trans (FR_ft f)) (by rw [f.1 76 (by decide), e3, up_same, upd_same]) ⟨T', ?_, ?_, ?_, ?_, ?_, ?_, ?_, ?_, by omega, by omega⟩)
  · rw [f.2 12 (by omega), o 65 (by decide)]
    exact a5
  · rw [f.2 29 (by omega), o 65 (by decide)]
    exact a6
  · rw [f.1 74 (by decide), o 74 (by decide)]
    exact a7
  · rw [f.2 32 (by omega), o 65 (by decide)]
    exact a1
  · rw [f.1 75 (by decide), o 75 (by decide)]
    exact a8
  · rw [f.2 33 (by omega), o 65 (by decide)]
    exact a9
  · rw [f.2 30 (by omega), o 65 (by decide)]
    exact a10
  · rw [f.2 31 (by omega), o 65 (by decide)]
    exact a11
theorem e_LpT {k : Nat} (hd : 4 ≤ d) (hdep : dep < 9) (hR : RM t pe base od S p c W dep) (h76 : S 76 dep = 0) (ho : opT t p = some k) (h : ∀ S' : St, FR dep S S' → S' 76 dep = 1 → RM t pe base od S' (te t p) (fls 4 c W).1 (k :: (fls 4 c W).2) dep → k_m_operand E (d - 1) S' 0 (fun S8 => k_m_expression_39 E d S8 1 Q)) : k_m_expression_39 E d S 1 Q := by
  have p7 : p ≤ 700 := Nat.le_trans hR.1.2.1 hR.1.1.1
  have go : ∀ c0, isS t p c0 = true → (c0 = 60 ∧ k = 5 ∨ c0 = 61 ∧ k = 6) → k_m_expression_39 E d S 1 Q := fun c0 hs hc => by
    refine e_head0 (by omega) hR (sg_kwd hs) (fun _ => ?_) (fun g => ?_)
    · refine w_m_expression_142 (by omega) ⟨dep, hR.2.2.2.2.2.2.1, hdep, ?_⟩
      rw [h76, if_pos rfl]
      refine w_m_drops (by omega) (e_drops (k := 4) (by omega) (by omega) p7 W c S hR (fun S2 f2 g2 R2 => ?_))
      refine e_isSignM R2.1 (c := 60) (by omega) (izb (fun e => ?_) (fun e => ?_))
      · have hk : k = 5 := by
          rcases hc with hc | hc
          · exact hc.2
          · exact absurd e (sg_ne hs (by omega))
        subst hk
        exact w_m_expression_176 (by omega) (e_pushSet (k := 5) (by omega) hdep R2 (by omega) rfl (isS_k hs) (fun S' f g R' => h S' ((FR_100 f2 (by omega)).trans f) g R'))
      · have hk : k = 6 := by
          rcases hc with hc | hc
          · rw [hc.1] at hs
            exact absurd hs e
          · exact hc.2
        subst hk
        exact w_m_expression_176 (by omega) (e_pushSet (k := 6) (by omega) hdep R2 (by omega) rfl (isS_k hs) (fun S' f g R' => h S' ((FR_100 f2 (by omega)).trans f) g R'))
    · exfalso
      rcases hc with hc | hc
      · rw [hc.1] at hs
        exact g (Or.inl hs)
      · rw [hc.1] at hs
        exact g (Or.inr hs)
  unfold opT at ho
  split at ho
  · rename_i e
    cases ho
    exact go 60 e (Or.inl ⟨rfl, rfl⟩)
  · split at ho
    · rename_i e
      cases ho
      exact go 61 e (Or.inr ⟨rfl, rfl⟩)
    · cases ho
/-- and, or -/
theorem e_LpW {k s : Nat} (hd : 4 ≤ d) (hdep : dep < 9) (hR : RM t pe base od S p c W dep) (ho : (s = 2 ∧ k = 4 ∧ isW t p wAnd = true) ∨ (s = 1 ∧ k = 3 ∧ isW t p wOr = true)) (h : ∀ S' : St, FR dep S S' → S' 76 dep = 0 → RM t pe base od S' (te t p) (fls s c W).1 (k :: (fls s c W).2) dep → k_m_operand E (d - 1) S' 1 (fun S8 => k_m_expression_39 E d S8 1 Q)) : k_m_expression_39 E d S 1 Q := by
  have p7 : p ≤ 700 := Nat.le_trans hR.1.2.1 hR.1.1.1
  refine w_m_expression_39 (by omega) ?_
  rw [if_neg (by decide)]
  refine RM_good hR ?_
  rw [if_neg (by decide)]
  refine e_knownWord (by omega) hR.1 ?_
  rcases ho with ⟨rfl, rfl, hw⟩ | ⟨rfl, rfl, hw⟩
  · have hk : kwd t p = some 14 := (kwd_iff (by omega)).mpr hw
    rw [hk, if_pos (show oI (some 14) = 14 from rfl)]
    refine w_m_expression_70 (by omega) ?_
    rw [if_pos (show oI (some 14) = 14 from rfl)]
    refine w_m_drops (by omega) (e_drops (k := 2) (by omega) (by omega) p7 W c S hR (fun S2 f2 g2 R2 => ?_))
    rw [if_pos (show oI (some 14) = 14 from rfl)]
    exact w_m_expression_99 (by omega) (e_pushSet (k := 4) (by omega) hdep R2 (by omega) rfl (isW_k hw) (fun S' f g R' => h S' ((FR_100 f2 (by omega)).trans f) g R'))
  · have hk : kwd t p = some 15 := (kwd_iff (by omega)).mpr hw
    rw [hk, if_neg (show ¬ oI (some 15) = 14 by decide), if_pos (show oI (some 15) = 15 from rfl)]
    refine w_m_expression_70 (by omega) ?_
    rw [if_neg (show ¬ oI (some 15) = 14 by decide)]
    refine w_m_drops (by omega) (e_drops (k := 1) (by omega) (by omega) p7 W c S hR (fun S2 f2 g2 R2 => ?_))
    rw [if_neg (show ¬ oI (some 15) = 14 by decide)]
    exact w_m_expression_99 (by omega) (e_pushSet (k := 3) (by omega) hdep R2 (by omega) rfl (isW_k hw) (fun S' f g R' => h S' ((FR_100 f2 (by omega)).trans f) g R'))
end DSP
