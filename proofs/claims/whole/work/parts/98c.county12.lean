/-! COUNTY in the reference: code that is laid, operators that wait -/
def szT (x : Tok) : Nat := if x.1 ≤ 1 then 2 else 1
def ofL : List Tok → Nat
  | [] => 0
  | x :: c => szT x + ofL c
theorem ofL_app : ∀ a b : List Tok, ofL (a ++ b) = ofL a + ofL b
  | [], b => by
    show ofL b = 0 + ofL b
    omega
  | x :: a, b => by
    show szT x + ofL (a ++ b) = szT x + ofL a + ofL b
    rw [ofL_app a b]
    omega
/-- a token as it is laid -/
def TokAt (b : Bool) (f : Nat → Int32) (a : Nat) (x : Tok) : Prop := (x.1 = 0 → f a = 1 ∧ f (a + 1) = nI x.2) ∧ (x.1 = 1 → f a = 2 ∧ f (a + 1) = nI (encV b x.2)) ∧ (2 ≤ x.1 → f a = nI (encO x.1))
def CodeAt (b : Bool) (f : Nat → Int32) : Nat → List Tok → Prop
  | _, [] => True
  | a, x :: c => TokAt b f a x ∧ CodeAt b f (a + szT x) c
theorem szT_1 (x : Tok) : 1 ≤ szT x ∧ szT x ≤ 2 := by
  unfold szT
  split <;> omega
theorem TokAt_of {b : Bool} {f g : Nat → Int32} {a : Nat} {x : Tok} (h : TokAt b f a x) (e : ∀ i, a ≤ i → i < a + szT x → g i = f i) : TokAt b g a x := by
  have s := szT_1 x
  refine ⟨fun h0 => ?_, fun h1 => ?_, fun h2 => ?_⟩
  · have sz : szT x = 2 := by
      unfold szT
      rw [if_pos (by omega)]
    rw [e a (by omega) (by omega), e (a + 1) (by omega) (by omega)]
    exact h.1 h0
  · have sz : szT x = 2 := by
      unfold szT
      rw [if_pos (by omega)]
    rw [e a (by omega) (by omega), e (a + 1) (by omega) (by omega)]
    exact h.2.1 h1
  · rw [e a (by omega) (by omega)]
    exact h.2.2 h2
theorem CodeAt_of {b : Bool} {f g : Nat → Int32} : ∀ (c : List Tok) (a : Nat), CodeAt b f a c → (∀ i, a ≤ i → i < a + ofL c → g i = f i) → CodeAt b g a c
  | [], _, _, _ => trivial
  | x :: c, a, h, e => by
    have hs : ofL (x :: c) = szT x + ofL c := rfl
    refine ⟨TokAt_of h.1 (fun i h1 h2 => e i h1 (by omega)), CodeAt_of c _ h.2 (fun i h1 h2 => e i (by omega) (by omega))⟩
theorem CodeAt_app {b : Bool} {f : Nat → Int32} {x : Tok} : ∀ (c : List Tok) (a : Nat), CodeAt b f a c → TokAt b f (a + ofL c) x → CodeAt b f a (c ++ [x])
  | [], a, _, h => ⟨h, trivial⟩
  | y :: c, a, h, g => by
    refine ⟨h.1, CodeAt_app c _ h.2 ?_⟩
    have hs : ofL (y :: c) = szT y + ofL c := rfl
    rw [hs] at g
    rw [Nat.add_assoc]
    exact g
/-- operators that wait, the last one first: 0 an open parenthesis, else kinds -/
def acW (k : Nat) : Nat := if k = 0 then 14 else encO k
def stW (k : Nat) : Nat := if k = 3 then 1 else if k = 4 then 2 else if k = 2 then 3 else if k ≤ 6 then 4 else if k ≤ 8 then 5 else 6
def WaitAt (f : Nat → Int32) : List Nat → Prop
  | [] => True
  | k :: W => f W.length = nI (acW k) ∧ (k = 0 ∨ (2 ≤ k ∧ k ≤ 10)) ∧ WaitAt f W
theorem WaitAt_of {f g : Nat → Int32} : ∀ W : List Nat, WaitAt f W → (∀ i, i < W.length → g i = f i) → WaitAt g W
  | [], _, _ => trivial
  | k :: W, h, e => by
    have hl : (k :: W).length = W.length + 1 := rfl
    refine ⟨?_, h.2.1, WaitAt_of W h.2.2 (fun i hi => e i (by omega))⟩
    rw [e W.length (by omega)]
    exact h.1
/-- drops: all that are not open and as strong -/
def fls (k : Nat) : List Tok → List Nat → List Tok × List Nat
  | c, [] => (c, [])
  | c, a :: W => if a = 0 ∨ stW a < k then (c, a :: W) else fls k (c ++ [(a, 0)]) W
theorem fls_stop {k : Nat} {c : List Tok} {W : List Nat} (h : ∀ a V, W = a :: V → a = 0 ∨ stW a < k) : fls k c W = (c, W) := by
  cases W with
  | nil => rfl
  | cons a V =>
    show (if a = 0 ∨ stW a < k then (c, a :: V) else _) = _
    rw [if_pos (h a V rfl)]
theorem fls_le {j k : Nat} (hjk : j ≤ k) : ∀ (W : List Nat) (c : List Tok), fls j (fls k c W).1 (fls k c W).2 = fls j c W
  | [], _ => rfl
  | a :: W, c => by
    by_cases h : a = 0 ∨ stW a < k
    · rw [show fls k c (a :: W) = (c, a :: W) from if_pos h]
    · rw [show fls k c (a :: W) = fls k (c ++ [(a, 0)]) W from if_neg h, show fls j c (a :: W) = fls j (c ++ [(a, 0)]) W from if_neg (by omega)]
      exact fls_le hjk W _
/-- code from base on, the older code below it -/
def CodeB (pe : Bool) (base : Nat) (od f : Nat → Int32) (c : List Tok) : Prop := CodeAt (!pe) f base c ∧ ∀ i, i < base → f i = od i
/-- the state of reading a rule: good, token, code, what waits, depth, which values -/
def RM (t : Txt) (pe : Bool) (base : Nat) (od : Nat → Int32) (S : St) (p : Nat) (c : List Tok) (W : List Nat) (dep : Nat) : Prop := TkM t S p ∧ S 65 12 = 0 ∧ S 65 29 = nI (base + ofL c) ∧ CodeB pe base od (S 74) c ∧ S 65 32 = nI W.length ∧ WaitAt (S 75) W ∧ S 65 33 = nI dep ∧ S 65 30 = nI (if pe then 0 else 4) ∧ S 65 31 = nI (if pe then 4 else 8) ∧ base + ofL c + W.length + 2 ≤ 2 * p ∧ W.length ≤ p
/-- what a rule's reading changes -/
def FR (dep : Nat) (S S' : St) : Prop := (∀ k, k ∉ [65, 74, 75, 76] → S' k = S k) ∧ (∀ i, i < 12 ∨ i = 15 ∨ (23 ≤ i ∧ i < 29) ∨ (i = 30 ∨ i = 31) ∨ (34 ≤ i ∧ i < 1000) → S' 65 i = S 65 i) ∧ (∀ j, j < dep → S' 76 j = S 76 j)
theorem FR.refl (dep : Nat) (S : St) : FR dep S S := ⟨fun _ _ => rfl, fun _ _ => rfl, fun _ _ => rfl⟩
theorem FR.trans {dep : Nat} {S S1 S2 : St} (h1 : FR dep S S1) (h2 : FR dep S1 S2) : FR dep S S2 := ⟨fun k hk => (h2.1 k hk).trans (h1.1 k hk), fun i hi => (h2.2.1 i hi).trans (h1.2.1 i hi), fun j hj => (h2.2.2 j hj).trans (h1.2.2 j hj)⟩
theorem FR.mono {dep dep' : Nat} {S S1 : St} (h : FR dep S S1) (hd : dep' ≤ dep) : FR dep' S S1 := ⟨h.1, h.2.1, fun j hj => h.2.2 j (by omega)⟩
theorem FR_ft {dep : Nat} {S S' : St} (h : FT S S') : FR dep S S' := ⟨fun k hk => h.1 k (fun hm => hk (by rw [List.mem_singleton.mp hm]; decide)), fun i hi => h.2 i (by omega), fun j _ => by rw [h.1 76 (by decide)]⟩
section OPS
variable {t : Txt} {pe : Bool} {base : Nat} {od : Nat → Int32} {S : St} {E : zX} {d : Nat} {p : Nat} {c : List Tok} {W : List Nat} {dep : Nat}
theorem TkM_k {S' : St} (h : TkM t S p) (e : ∀ i, i ∉ [12, 29, 32, 33] → S' 65 i = S 65 i) (e69 : S' 69 = S 69) : TkM t S' p := by
  obtain ⟨⟨a1, a2, a3, a4⟩, b1, b2, b3, b4, b5, b6, b7, b8⟩ := h
  have hw : wM S' = wM S := by
    unfold wM
    rw [e (hf 22) (by rw [hf_def]; decide), e (lf 22) (by rw [lf_def]; decide)]
  refine ⟨⟨a1, a2, ?_, ?_⟩, b1, ?_, ?_, ?_, ?_, ?_, ?_, ?_⟩
  · rw [e 15 (by decide)]
    exact a3
  · rw [e69, e 13 (by decide)]
    exact a4
  · rw [e 16 (by decide)]
    exact b2
  · rw [e 17 (by decide)]
    exact b3
  · rw [e 18 (by decide)]
    exact b4
  · rw [e 19 (by decide)]
    exact b5
  · rw [e 20 (by decide)]
    exact b6
  · rw [e 21 (by decide)]
    exact b7
  · rw [hw]
    exact b8
theorem RM_good (hR : RM t pe base od S p c W dep) {Q : Int32 → St → Prop} (h : Q 1 S) : k_m_isGood E d S Q := by
  refine w_m_isGood ?_
  rw [hR.2.1, if_pos rfl]
  exact h
/-- the next token -/
theorem e_nextR {Q : St → Prop} (hd : 2 ≤ d) (hR : RM t pe base od S p c W dep) (h : ∀ S' : St, FR 100 S S' → S' 76 = S 76 → RM t pe base od S' (te t p) c W dep → Q S') : k_m_goes E d S Q := by
  obtain ⟨hT, h2, h3, h4, h5, h6, h7, h8, h9, h10, h11⟩ := hR
  have g1 := te_ge (t := t) (p := p)
  have g2 := tf_ge (t := t) (p := p)
  refine e_nextM hd hT (fun S' f T' => h S' (FR_ft f) (f.1 76 (by decide)) ⟨T', ?_, ?_, ?_, ?_, ?_, ?_, ?_, ?_, by omega, by omega⟩)
  · rw [f.2 12 (by omega)]
    exact h2
  · rw [f.2 29 (by omega)]
    exact h3
  · rw [f.1 74 (by decide)]
    exact h4
  · rw [f.2 32 (by omega)]
    exact h5
  · rw [f.1 75 (by decide)]
    exact h6
  · rw [f.2 33 (by omega)]
    exact h7
  · rw [f.2 30 (by omega)]
    exact h8
  · rw [f.2 31 (by omega)]
    exact h9
/-- an operator waits, the token behind it is next -/
theorem e_waitsNext {k : Nat} {v : Int32} {Q : St → Prop} (hd : 2 ≤ d) (hR : RM t pe base od S p c W dep) (hk : k = 0 ∨ (2 ≤ k ∧ k ≤ 10)) (hv : v = nI (acW k)) (ht : ¬ tk t p = 0) (hp7 : p ≤ 700) (h : ∀ S' : St, S' 65 32 = nI (k :: W).length → FR 100 S S' → S' 76 = S 76 → TkM t S' p → S' 65 12 = 0 → S' 65 29 = nI (base + ofL c) → CodeB pe base od (S' 74) c → WaitAt (S' 75) (k :: W) → S' 65 33 = nI dep → S' 65 30 = nI (if pe then 0 else 4) → S' 65 31 = nI (if pe then 4 else 8) → Q S') : k_m_waitsFor E d S v Q := by
  obtain ⟨hT, h2, h3, h4, h5, h6, h7, h8, h9, h10, h11⟩ := hR
  refine w_m_waitsFor ⟨W.length, h5, by omega, fun S1 e1 S3 e3 => ?_⟩
  have u : ∀ i, i ≠ 32 → S3 65 i = S 65 i := fun i hi => by rw [e3, up_same, upd_ne _ _ hi, e1, up_ne _ _ _ (by decide)]
  have o : ∀ k, k ≠ 65 → k ≠ 75 → S3 k = S k := fun k a b => by rw [e3, up_ne _ _ _ a, e1, up_ne _ _ _ b]
  refine h S3 ?_ ⟨fun k hk => o k (fun e => hk (by rw [e]; decide)) (fun e => hk (by rw [e]; decide)), fun i hi => u i (by omega), fun j _ => by rw [o 76 (by decide) (by decide)]⟩ (o 76 (by decide) (by decide)) (TkM_k hT (fun i hi => u i (fun e => hi (by rw [e]; decide))) (o 69 (by decide) (by decide))) ?_ ?_ ?_ ⟨?_, hk, ?_⟩ ?_ ?_ ?_
  · rw [e3, up_same, upd_same, e1, up_ne _ _ _ (by decide), h5, nI_1]
    rfl
  · rw [u 12 (by decide)]
    exact h2
  · rw [u 29 (by decide)]
    exact h3
  · rw [o 74 (by decide) (by decide)]
    exact h4
  · rw [e3, up_ne _ _ _ (by decide), e1, up_same, upd_same]
    exact hv
  · rw [e3, up_ne _ _ _ (by decide), e1, up_same]
    exact WaitAt_of W h6 (fun i hi => upd_ne _ _ (by omega))
  · rw [u 33 (by decide)]
    exact h7
  · rw [u 30 (by decide)]
    exact h8
  · rw [u 31 (by decide)]
    exact h9
theorem acW_ok : ∀ k, k ≤ 10 → (k = 0 ∨ 2 ≤ k) → (nI (acW k) < 14 ↔ ¬ k = 0) := by decide +kernel
theorem e_isOpen {k : Nat} {Q : Int32 → St → Prop} (hk : k = 0 ∨ (2 ≤ k ∧ k ≤ 10)) (h : Q (zb (k = 0)) S) : k_m_isOpen E d S (nI (acW k)) Q := by
  have := acW_ok k (by omega) (by omega)
  refine w_m_isOpen (ife (fun e => ?_) (fun e => ?_))
  · rw [zb_f (this.mp e)] at h
    exact h
  · rw [zb_t (by
      by_cases g : k = 0
      · exact g
      · exact absurd (this.mpr g) e)] at h
    exact h
theorem e_strength {k : Nat} {Q : Int32 → St → Prop} (hk : 2 ≤ k ∧ k ≤ 10) (h : Q (nI (stW k)) S) : k_m_strength E d S (nI (acW k)) Q := by
  have cs : k = 2 ∨ k = 3 ∨ k = 4 ∨ k = 5 ∨ k = 6 ∨ k = 7 ∨ k = 8 ∨ k = 9 ∨ k = 10 := by omega
  refine w_m_strength ?_
  rcases cs with rfl | rfl | rfl | rfl | rfl | rfl | rfl | rfl | rfl
  · rw [if_neg (by decide), if_neg (by decide), if_pos (by decide)]
    exact h
  · rw [if_pos (by decide)]
    exact h
  · rw [if_neg (by decide), if_pos (by decide)]
    exact h
  · rw [if_neg (by decide), if_neg (by decide), if_neg (by decide), if_pos (by decide)]
    exact h
  · rw [if_neg (by decide), if_neg (by decide), if_neg (by decide), if_neg (by decide), if_pos (by decide)]
    exact h
  · rw [if_neg (by decide), if_neg (by decide), if_neg (by decide), if_neg (by decide), if_neg (by decide), if_pos (by decide)]
    exact h
  · rw [if_neg (by decide), if_neg (by decide), if_neg (by decide), if_neg (by decide), if_neg (by decide), if_neg (by decide), if_pos (by decide)]
    exact h
  · rw [if_neg (by decide), if_neg (by decide), if_neg (by decide), if_neg (by decide), if_neg (by decide), if_neg (by decide), if_neg (by decide)]
    exact h
  · rw [if_neg (by decide), if_neg (by decide), if_neg (by decide), if_neg (by decide), if_neg (by decide), if_neg (by decide), if_neg (by decide)]
    exact h
/-- drops -/
theorem e_drops {k : Nat} {Q : St → Prop} (hd : 2 ≤ d) (hk : k ≤ 6) (hp7 : p ≤ 700) : ∀ (W : List Nat) (c : List Tok) (S : St), RM t pe base od S p c W dep → (∀ S' : St, FR 100 S S' → S' 76 = S 76 → RM t pe base od S' p (fls k c W).1 (fls k c W).2 dep → Q S') → k_m_drops_0 E d S (nI k) Q
  | [], c, S, hR, h => by
    refine w_m_drops_0 (by omega) ?_
    rw [hR.2.2.2.2.1, if_pos (by decide)]
    exact h S (FR.refl _ _) rfl hR
  | a :: W, c, S, hR, h => by
    have hR' := hR
    obtain ⟨hT, h2, h3, h4, h5, h6, h7, h8, h9, h10, h11⟩ := hR
    have hl : (a :: W).length = W.length + 1 := rfl
    rw [hl] at h5 h10 h11
    obtain ⟨w1, w2, w3⟩ := h6
    refine w_m_drops_0 (by omega) ?_
    rw [h5, if_neg (nI_nle (by omega) (by omega)), nI_pred]
    refine ⟨W.length, rfl, by omega, ?_⟩
    rw [w1]
    refine e_isOpen w2 (izb (fun e => ?_) (fun e => ?_))
    · have ef : fls k c (a :: W) = (c, a :: W) := if_pos (Or.inl e)
      rw [ef] at h
      exact h S (FR.refl _ _) rfl hR'
    · refine ⟨W.length, by rw [h5, nI_pred], by omega, ?_⟩
      rw [w1]
      have ak : 2 ≤ a ∧ a ≤ 10 := by omega
      have s6 : stW a ≤ 6 := by
        unfold stW
        repeat' split
        all_goals omega
      refine e_strength ak (ife (fun s => ?_) (fun s => ?_))
      · rw [nI_ltI (by omega) (by omega)] at s
        have ef : fls k c (a :: W) = (c, a :: W) := if_pos (Or.inr s)
        rw [ef] at h
        exact h S (FR.refl _ _) rfl hR'
      · rw [nI_ltI (by omega) (by omega)] at s
        have ef : fls k c (a :: W) = fls k (c ++ [(a, 0)]) W := if_neg (by omega)
        rw [ef] at h
        refine fun S7 e7 => ⟨W.length, ?_, by omega, ?_⟩
        · rw [e7, up_same, upd_same, h5, nI_pred]
        have u7 : ∀ i, i ≠ 32 → S7 65 i = S 65 i := fun i hi => by rw [e7, up_same, upd_ne _ _ hi]
        have v75 : S7 75 W.length = nI (acW a) := by rw [e7, up_ne _ _ _ (by decide)]; exact w1
        rw [v75]
        have sz1 : szT (a, 0) = 1 := by
          unfold szT
          rw [if_neg (show ¬ a ≤ 1 by omega)]
        have eo : ofL (c ++ [(a, 0)]) = ofL c + 1 := by
          rw [ofL_app]
          show ofL c + (szT (a, 0) + 0) = _
          rw [sz1]
        refine w_m_puts ⟨base + ofL c, by rw [u7 29 (by decide)]; exact h3, by omega, fun S8 e8 S9 e9 => ?_⟩
        have u9 : ∀ i, i ≠ 32 → i ≠ 29 → S9 65 i = S 65 i := fun i a1 a2 => by rw [e9, up_same, upd_ne _ _ a2, e8, up_ne _ _ _ (by decide), u7 i a1]
        have o9 : ∀ k, k ≠ 65 → k ≠ 74 → S9 k = S k := fun k a1 a2 => by rw [e9, up_ne _ _ _ a1, e8, up_ne _ _ _ a2, e7, up_ne _ _ _ a1]
        have f9 : FR 100 S S9 := ⟨fun k hk => o9 k (fun e => hk (by rw [e]; decide)) (fun e => hk (by rw [e]; decide)), fun i hi => u9 i (by omega) (by omega), fun j _ => by rw [o9 76 (by decide) (by decide)]⟩
        refine e_drops hd hk hp7 W (c ++ [(a, 0)]) S9 ⟨TkM_k hT (fun i hi => u9 i (fun e => hi (by rw [e]; decide)) (fun e => hi (by rw [e]; decide))) (o9 69 (by decide) (by decide)), ?_, ?_, ?_, ?_, ?_, ?_, ?_, ?_, by rw [eo]; omega, by omega⟩ (fun S' f76 g R' => h S' (f9.trans f76) (by rw [g, o9 76 (by decide) (by decide)]) R')
        · rw [u9 12 (by decide) (by decide)]
          exact h2
        · rw [e9, up_same, upd_same, e8, up_ne _ _ _ (by decide), u7 29 (by decide), h3, nI_1, eo, Nat.add_assoc]
        · rw [e9, up_ne _ _ _ (by decide), e8, up_same, e7, up_ne _ _ _ (by decide)]
          refine ⟨CodeAt_app c base (CodeAt_of c base h4.1 (fun i h1 h2 => upd_ne _ _ (by omega))) ⟨fun g => absurd g (by show ¬ a = 0; omega), fun g => absurd g (by show ¬ a = 1; omega), fun _ => ?_⟩, fun i hi => by rw [upd_ne _ _ (by omega)]; exact h4.2 i hi⟩
          rw [upd_same]
          unfold acW
          rw [if_neg (by omega)]
        · rw [e9, up_same, upd_ne _ _ (by decide), e8, up_ne _ _ _ (by decide), e7, up_same, upd_same, h5, nI_pred]
        · rw [o9 75 (by decide) (by decide)]
          exact w3
        · rw [u9 33 (by decide) (by decide)]
          exact h7
        · rw [u9 30 (by decide) (by decide)]
          exact h8
        · rw [u9 31 (by decide) (by decide)]
          exact h9
end OPS
