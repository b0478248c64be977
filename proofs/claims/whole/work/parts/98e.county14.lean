/-! COUNTY in the reference: parentheses, ends, faults, parts -/
/-- a fault stands: which, where; the rows have room -/
def FaM (S : St) (g : Nat × Nat) : Prop := S 65 12 = nI g.1 ∧ S 65 13 = nI g.2 ∧ 1 ≤ g.1 ∧ g.1 ≤ 5 ∧ ∃ tp w, S 65 29 = nI tp ∧ S 65 32 = nI w ∧ tp + w + 1 ≤ 1400 ∧ w ≤ 900
section FLT
variable {t : Txt} {pe : Bool} {base : Nat} {od : Nat → Int32} {S : St} {E : zX} {d : Nat} {p : Nat} {c : List Tok} {W : List Nat} {dep : Nat} {Q : St → Prop}
theorem e_wrongR {v : Nat} (hR : RM t pe base od S p c W dep) (hv : 1 ≤ v ∧ v ≤ 5) (h : ∀ S' : St, FR 100 S S' → FaM S' (v, tf t p) → (∀ i, i ≠ 12 → i ≠ 13 → S' 65 i = S 65 i) → (∀ k, k ≠ 65 → S' k = S k) → Q S') : k_m_wrong E d S (nI v) Q := by
  obtain ⟨hT, h2, h3, h4, h5, h6, h7, h8, h9, h10, h11⟩ := hR
  have p7 : p ≤ 700 := Nat.le_trans hT.2.1 hT.1.1
  refine w_m_wrong ?_
  rw [h2, if_pos rfl]
  refine fun S1 e1 S2 e2 => ?_
  have u : ∀ i, i ≠ 12 → i ≠ 13 → S2 65 i = S 65 i := fun i a b => by rw [e2, up_same, upd_ne _ _ b, e1, up_same, upd_ne _ _ a]
  have o : ∀ k, k ≠ 65 → S2 k = S k := fun k hk => by rw [e2, up_ne _ _ _ hk, e1, up_ne _ _ _ hk]
  refine h S2 ⟨fun k hk => o k (fun e => hk (by rw [e]; decide)), fun i hi => u i (by omega) (by omega), fun j _ => by rw [o 76 (by decide)]⟩ ⟨?_, ?_, hv.1, hv.2, base + ofL c, W.length, ?_, ?_, by omega, by omega⟩ u o
  · rw [e2, up_same, upd_ne _ _ (by decide), e1, up_same, upd_same]
  · rw [e2, up_same, upd_same, e1, up_same, upd_ne _ _ (by decide)]
    exact hT.2.2.2.2.1
  · rw [u 29 (by decide) (by decide)]
    exact h3
  · rw [u 32 (by decide) (by decide)]
    exact h5
theorem fa_ne {g : Nat × Nat} (h : FaM S g) : ¬ S 65 12 = 0 := by
  rw [h.1]
  exact nI_ne0 h.2.2.1 (by have := h.2.2.2.1; omega)
theorem e_badG {g : Nat × Nat} {Q : Int32 → St → Prop} (hF : FaM S g) (h : Q 0 S) : k_m_isGood E d S Q := by
  refine w_m_isGood ?_
  rw [if_neg (fa_ne hF)]
  exact h
theorem str_any {a : Int32} {Q : Int32 → St → Prop} (h : ∀ v, 1 ≤ v → v ≤ 6 → Q (nI v) S) : k_m_strength E d S a Q := by
  refine w_m_strength (ife (fun _ => h 1 (by omega) (by omega)) (fun _ => ife (fun _ => h 2 (by omega) (by omega)) (fun _ => ife (fun _ => h 3 (by omega) (by omega)) (fun _ => ife (fun _ => h 4 (by omega) (by omega)) (fun _ => ife (fun _ => h 4 (by omega) (by omega)) (fun _ => ife (fun _ => h 5 (by omega) (by omega)) (fun _ => ife (fun _ => h 5 (by omega) (by omega)) (fun _ => h 6 (by omega) (by omega)))))))))
/-- in a fault all that waits is dropped, somehow -/
theorem e_dropsJ (hd : 2 ≤ d) : ∀ (w tp : Nat) (S : St), S 65 29 = nI tp → S 65 32 = nI w → tp + w + 1 ≤ 1400 → w ≤ 900 → (∀ S' : St, (∀ k, k ≠ 65 → k ≠ 74 → S' k = S k) → (∀ i, i ≠ 29 → i ≠ 32 → S' 65 i = S 65 i) → (∃ tp', S' 65 29 = nI tp' ∧ tp' + 1 ≤ 1400) → Q S') → k_m_drops_0 E d S 0 Q
  | 0, tp, S, h29, h32, hb, hw, h => by
    refine w_m_drops_0 (by omega) ?_
    rw [h32, if_pos (by decide)]
    exact h S (fun _ _ _ => rfl) (fun _ _ _ => rfl) ⟨tp, h29, by omega⟩
  | w + 1, tp, S, h29, h32, hb, hw, h => by
    refine w_m_drops_0 (by omega) ?_
    rw [h32, if_neg (nI_nle (by omega) (by omega)), nI_pred]
    refine ⟨w, rfl, by omega, w_m_isOpen (ife (fun _ => ?_) (fun _ => ?_))⟩
    · rw [if_pos rfl]
      refine ⟨w, by rw [h32, nI_pred], by omega, str_any (fun v v1 v6 => ?_)⟩
      rw [if_neg (nI_pos (by omega))]
      refine fun S7 e7 => ⟨w, ?_, by omega, ?_⟩
      · rw [e7, up_same, upd_same, h32, nI_pred]
      refine w_m_puts ⟨tp, ?_, by omega, fun S8 e8 S9 e9 => ?_⟩
      · rw [e7, up_same, upd_ne _ _ (by decide)]
        exact h29
      have o9 : ∀ k, k ≠ 65 → k ≠ 74 → S9 k = S k := fun k a b => by rw [e9, up_ne _ _ _ a, e8, up_ne _ _ _ b, e7, up_ne _ _ _ a]
      have u9 : ∀ i, i ≠ 29 → i ≠ 32 → S9 65 i = S 65 i := fun i a b => by rw [e9, up_same, upd_ne _ _ a, e8, up_ne _ _ _ (by decide), e7, up_same, upd_ne _ _ b]
      refine e_dropsJ hd w (tp + 1) S9 ?_ ?_ (by omega) (by omega) (fun S' a b e => h S' (fun k x y => (a k x y).trans (o9 k x y)) (fun i x y => (b i x y).trans (u9 i x y)) e)
      · rw [e9, up_same, upd_same, e8, up_ne _ _ _ (by decide), e7, up_same, upd_ne _ _ (by decide), h29, nI_1]
      · rw [e9, up_same, upd_ne _ _ (by decide), e8, up_ne _ _ _ (by decide), e7, up_same, upd_same, h32, nI_pred]
    · rw [if_neg (by decide)]
      exact h S (fun _ _ _ => rfl) (fun _ _ _ => rfl) ⟨tp, h29, by omega⟩
/-- what a reading changes that found a fault -/
def FB (S S' : St) : Prop := (∀ k, k ∉ [65, 74, 75, 76] → S' k = S k) ∧ (∀ i, i < 12 ∨ i = 15 ∨ (23 ≤ i ∧ i < 29) ∨ (34 ≤ i ∧ i < 1000) → S' 65 i = S 65 i)
theorem FB_r {S S' : St} (h : FR dep S S') : FB S S' := ⟨h.1, fun i hi => h.2.1 i (by omega)⟩
theorem FB.trans {S S1 S2 : St} (h1 : FB S S1) (h2 : FB S1 S2) : FB S S2 := ⟨fun k hk => (h2.1 k hk).trans (h1.1 k hk), fun i hi => (h2.2 i hi).trans (h1.2 i hi)⟩
theorem e_tailJ {tp w : Nat} (hd : 3 ≤ d) (h29 : S 65 29 = nI tp) (h32 : S 65 32 = nI w) (hb : tp + w + 1 ≤ 1400) (hw : w ≤ 900) (h : ∀ S' : St, FB S S' → S' 65 12 = S 65 12 → S' 65 13 = S 65 13 → Q S') : k_m_drops E d S 0 (fun S4 => k_m_puts E d S4 0 (fun S6 => Q S6)) := by
  refine w_m_drops (by omega) (e_dropsJ (by omega) w tp S h29 h32 hb hw (fun S1 a b e => ?_))
  obtain ⟨tp', e29, e14⟩ := e
  refine w_m_puts ⟨tp', e29, by omega, fun S2 e2 S3 e3 => ?_⟩
  have o : ∀ k, k ≠ 65 → k ≠ 74 → S3 k = S k := fun k x y => by rw [e3, up_ne _ _ _ x, e2, up_ne _ _ _ y, a k x y]
  have u : ∀ i, i ≠ 29 → i ≠ 32 → S3 65 i = S 65 i := fun i x y => by rw [e3, up_same, upd_ne _ _ x, e2, up_ne _ _ _ (by decide), b i x y]
  exact h S3 ⟨fun k hk => o k (fun e => hk (by rw [e]; decide)) (fun e => hk (by rw [e]; decide)), fun i hi => u i (by omega) (by omega)⟩ (u 12 (by decide) (by decide)) (u 13 (by decide) (by decide))
/-- the loop's head in a fault -/
theorem e_LpF {g : Nat × Nat} (hd : 4 ≤ d) (hF : FaM S g) (h : ∀ S' : St, FB S S' → S' 65 12 = nI g.1 → S' 65 13 = nI g.2 → Q S') : k_m_expression_39 E d S 1 Q := by
  have hF' := hF
  obtain ⟨g1, g2, _, _, tp, w, h29, h32, hb, hw⟩ := hF
  refine w_m_expression_39 (by omega) ?_
  rw [if_neg (by decide)]
  refine e_badG hF' ?_
  rw [if_pos rfl]
  refine w_m_expression_340 (by omega) (e_badG hF' ?_)
  rw [if_pos rfl]
  exact e_tailJ (by omega) h29 h32 hb hw (fun S' f a b => h S' f (a.trans g1) (b.trans g2))
/-- whether a parenthesis stands open -/
theorem e_isOpened {Q : Int32 → St → Prop} (hd : 2 ≤ d) : ∀ (W : List Nat), WaitAt (S 75) W → W.length ≤ 700 → Q (zb (0 ∈ W)) S → k_m_isOpened_7 E d S (nI W.length - 1) Q
  | [], _, _, h => by
    refine w_m_isOpened_7 (by omega) ?_
    rw [if_pos (by decide), if_pos (by decide)]
    rw [zb_f (by simp)] at h
    exact h
  | a :: W, hW, hl, h => by
    have hl2 : (a :: W).length = W.length + 1 := rfl
    rw [hl2] at hl ⊢
    rw [nI_pred]
    refine w_m_isOpened_7 (by omega) ?_
    rw [if_neg (nI_pos (by omega))]
    refine ⟨W.length, rfl, by omega, ?_⟩
    rw [hW.1]
    refine e_isOpen hW.2.1 (izb (fun e => ?_) (fun e => ?_))
    · rw [if_neg (nI_pos (by omega))]
      rw [zb_t (by rw [e]; exact List.mem_cons_self)] at h
      exact h
    · rw [← Int32.sub_eq_add_neg]
      refine e_isOpened hd W hW.2.2 (by omega) ?_
      rw [zb_congr (show (0 ∈ a :: W) ↔ (0 ∈ W) from ⟨fun g => (List.mem_cons.mp g).resolve_left (fun g => e g.symm), fun g => List.mem_cons_of_mem _ g⟩)] at h
      exact h
/-- neither and, nor or -/
theorem e_headW (hd : 3 ≤ d) (hR : RM t pe base od S p c W dep) (h1 : opN t p = none) (h2 : opO t p = none) (h : (isS t p 60 = true ∨ isS t p 61 = true) → k_m_expression_142 E d S 1 Q) (h0 : ¬ (isS t p 60 = true ∨ isS t p 61 = true) → k_m_expression_201 E d S 1 Q) : k_m_expression_39 E d S 1 Q := by
  have n14 : ¬ kwd t p = some 14 := fun g => by
    have := (kwd_iff (by omega)).mp g
    unfold opN at h1
    rw [if_pos (show isW t p wAnd = true from this)] at h1
    cases h1
  have n15 : ¬ kwd t p = some 15 := fun g => by
    have := (kwd_iff (by omega)).mp g
    unfold opO at h2
    rw [if_pos (show isW t p wOr = true from this)] at h2
    cases h2
  have lt : ∀ k, kwd t p = some k → k < 17 := fun k hk => (fstF_inv _ _ hk).2.1
  have ne : ∀ m, m < 17 → ¬ kwd t p = some m → ¬ oI (kwd t p) = nI m := fun m hm hn g => by
    cases e : kwd t p with
    | none =>
      rw [e] at g
      exact oI_ne (show m < 2 ^ 31 by omega) g.symm
    | some k =>
      have := lt k e
      rw [e] at g hn
      have g : nI k = nI m := g
      rw [nI_eq (by omega) (by omega)] at g
      exact hn (by rw [g])
  refine w_m_expression_39 (by omega) ?_
  rw [if_neg (by decide)]
  refine RM_good hR ?_
  rw [if_neg (by decide)]
  refine e_knownWord (by omega) hR.1 ?_
  rw [if_neg (show ¬ oI (kwd t p) = 14 from ne 14 (by omega) n14), if_neg (show ¬ oI (kwd t p) = 15 from ne 15 (by omega) n15)]
  refine e_isSignM hR.1 (c := 60) (by omega) (izb (fun e => h (Or.inl e)) (fun e => ?_))
  exact e_isSignM hR.1 (c := 61) (by omega) (izb (fun e2 => h (Or.inr e2)) (fun e2 => h0 (fun g => g.elim e e2)))
/-- nothing more: a parenthesis is closed, or all ends -/
theorem e_LpE (hd : 4 ≤ d) (hdep : dep < 9) (hR : RM t pe base od S p c W dep) (h1 : opN t p = none) (h2 : opO t p = none) (h3 : opM t p = none) (h4 : opA t p = none) (h5 : S 76 dep = 0 → opT t p = none) (hc : isS t p 41 = true → 0 ∈ W → k_m_closes E (d - 1) S (fun S14 => k_m_expression_39 E d S14 1 Q)) (hx : ¬ (isS t p 41 = true ∧ 0 ∈ W) → k_m_expression_340 E d S Q) : k_m_expression_39 E d S 1 Q := by
  have p7 : p ≤ 700 := Nat.le_trans hR.1.2.1 hR.1.1.1
  have b2 := hR.2.2.2.2.2.2.2.2.2.2
  have no : ∀ {x y : Nat} {k1 k2 : Nat}, (if isS t p x then some k1 else if isS t p y then some k2 else none) = (none : Option Nat) → ¬ isS t p x = true ∧ ¬ isS t p y = true := fun {x y k1 k2} e => by
    by_cases a : isS t p x = true
    · rw [if_pos a] at e
      cases e
    · rw [if_neg a] at e
      by_cases b : isS t p y = true
      · rw [if_pos b] at e
        cases e
      · exact ⟨a, b⟩
  have nM := no (show (if isS t p 42 then some 9 else if isS t p 47 then some 10 else none) = none from h3)
  have nA := no (show (if isS t p 43 then some 7 else if isS t p 45 then some 8 else none) = none from h4)
  have l0 : k_m_expression_340 E d S Q → k_m_expression_39 E d S 0 Q := fun g => by
    refine w_m_expression_39 (by omega) ?_
    rw [if_pos rfl]
    exact g
  have l201 : k_m_expression_201 E d S 1 Q := by
    refine w_m_expression_201 (by omega) (e_isSignM hR.1 (c := 43) (by omega) ?_)
    rw [zb_f nA.1, if_pos rfl]
    refine e_isSignM hR.1 (c := 45) (by omega) ?_
    rw [zb_f nA.2, if_pos rfl]
    refine e_isSignM hR.1 (c := 42) (by omega) ?_
    rw [zb_f nM.1, if_pos rfl]
    refine e_isSignM hR.1 (c := 47) (by omega) ?_
    rw [zb_f nM.2, if_pos rfl]
    refine e_isSignM hR.1 (c := 41) (by omega) (izb (fun e => ?_) (fun e => ?_))
    · refine w_m_isOpened (by omega) ?_
      rw [hR.2.2.2.2.1]
      refine e_isOpened (by omega) W hR.2.2.2.2.2.1 (by omega) (izb (fun o => hc e o) (fun o => l0 (hx (fun g => o g.2))))
    · exact l0 (hx (fun g => e g.1))
  refine e_headW (by omega) hR h1 h2 (fun g => ?_) (fun _ => l201)
  refine w_m_expression_142 (by omega) ⟨dep, hR.2.2.2.2.2.2.1, hdep, ?_⟩
  refine ife (fun e => ?_) (fun _ => l201)
  have nT := no (show (if isS t p 60 then some 5 else if isS t p 61 then some 6 else none) = none from h5 e)
  exact absurd g (fun g => g.elim nT.1 nT.2)
/-- a parenthesis is closed -/
theorem e_closes {c' : List Tok} {W' : List Nat} (hd : 4 ≤ d) (hdep : 1 ≤ dep) (hR : RM t pe base od S p c W dep) (hf : fls 0 c W = (c', 0 :: W')) (h : ∀ S' : St, FR 100 S S' → S' 76 = S 76 → RM t pe base od S' (te t p) c' W' (dep - 1) → Q S') : k_m_closes E d S Q := by
  have p7 : p ≤ 700 := Nat.le_trans hR.1.2.1 hR.1.1.1
  refine w_m_closes (by omega) (w_m_drops (by omega) (e_drops (k := 0) (by omega) (by omega) p7 W c S hR (fun S2 f2 g2 R2 => ?_)))
  rw [hf] at R2
  have R2 : RM t pe base od S2 p c' (0 :: W') dep := R2
  obtain ⟨hT, h2, h3, h4, h5, h6, h7, h8, h9, h10, h11⟩ := R2
  have hl : (0 :: W').length = W'.length + 1 := rfl
  rw [hl] at h5 h10 h11
  refine fun S3 e3 S4 e4 => ?_
  have u : ∀ i, i ≠ 32 → i ≠ 33 → S4 65 i = S2 65 i := fun i a b => by rw [e4, up_same, upd_ne _ _ b, e3, up_same, upd_ne _ _ a]
  have o : ∀ k, k ≠ 65 → S4 k = S2 k := fun k hk => by rw [e4, up_ne _ _ _ hk, e3, up_ne _ _ _ hk]
  have T4 : TkM t S4 p := TkM_k hT (fun i hi => u i (fun e => hi (by rw [e]; decide)) (fun e => hi (by rw [e]; decide))) (o 69 (by decide))
  have f4 : FR 100 S2 S4 := ⟨fun k hk => o k (fun e => hk (by rw [e]; decide)), fun i hi => u i (by omega) (by omega), fun j _ => by rw [o 76 (by decide)]⟩
  have R4 : RM t pe base od S4 p c' W' (dep - 1) := by
    refine ⟨T4, ?_, ?_, ?_, ?_, ?_, ?_, ?_, ?_, by omega, by omega⟩
    · rw [u 12 (by decide) (by decide)]
      exact h2
    · rw [u 29 (by decide) (by decide)]
      exact h3
    · rw [o 74 (by decide)]
      exact h4
    · rw [e4, up_same, upd_ne _ _ (by decide), e3, up_same, upd_same, h5, nI_pred]
    · rw [o 75 (by decide)]
      exact h6.2.2
    · rw [e4, up_same, upd_same, e3, up_same, upd_ne _ _ (by decide), h7, show (1 : Int32) = nI 1 from rfl, pk_sub hdep]
    · rw [u 30 (by decide) (by decide)]
      exact h8
    · rw [u 31 (by decide) (by decide)]
      exact h9
  exact e_nextR (by omega) R4 (fun S' f g R' => h S' ((f2.trans f4).trans f) (by rw [g, o 76 (by decide), g2]) R')
end FLT
