/-! COUNTY in the reference: numbers, lines -/
def FaN (S : St) (g : Nat × Nat) : Prop := S 65 12 = nI g.1 ∧ S 65 13 = nI g.2 ∧ 1 ≤ g.1 ∧ g.1 ≤ 5
section NM
variable {t : Txt} {S : St} {E : zX} {d : Nat} {p : Nat}
theorem e_badN {g : Nat × Nat} {Q : Int32 → St → Prop} (hF : FaN S g) (h : Q 0 S) : k_m_isGood E d S Q := by
  refine w_m_isGood ?_
  rw [if_neg (show ¬ S 65 12 = 0 by rw [hF.1]; exact nI_ne0 hF.2.2.1 (by have := hF.2.2.2; omega))]
  exact h
theorem e_okN {Q : Int32 → St → Prop} (hg : S 65 12 = 0) (h : Q 1 S) : k_m_isGood E d S Q := by
  refine w_m_isGood ?_
  rw [hg, if_pos rfl]
  exact h
/-- a fault is told: 12 and 13 alone change -/
def F2 (S S' : St) : Prop := Fr [65] S S' ∧ ∀ i, i ≠ 12 → i ≠ 13 → S' 65 i = S 65 i
theorem e_wrongN {v : Nat} {Q : St → Prop} (hT : TkM t S p) (hg : S 65 12 = 0) (hv : 1 ≤ v ∧ v ≤ 5) (h : ∀ S' : St, F2 S S' → FaN S' (v, tf t p) → Q S') : k_m_wrong E d S (nI v) Q := by
  refine w_m_wrong ?_
  rw [hg, if_pos rfl]
  refine fun S1 e1 S2 e2 => ?_
  have g : Fr [65] S S1 := by rw [e1]; exact Fr.up _ _ (by decide)
  refine h S2 ⟨g.trans (by rw [e2]; exact Fr.up _ _ (by decide)), fun i a b => by rw [e2, up_same, upd_ne _ _ b, e1, up_same, upd_ne _ _ a]⟩ ⟨?_, ?_, hv.1, hv.2⟩
  · rw [e2, up_same, upd_ne _ _ (by decide), e1, up_same, upd_same]
  · rw [e2, up_same, upd_same, e1, up_same, upd_ne _ _ (by decide)]
    exact hT.2.2.2.2.1
theorem e_number {lo hi : Nat} {Q : Int32 → St → Prop} (hd : 4 ≤ d) (hT : TkM t S p) (hg : S 65 12 = 0) (hlo : lo < 100000) (hhi : hi < 100000) (h1 : ∀ (S' : St) (v : Nat), rdN t lo hi p = .inr (te t p, v) → FT S S' → TkM t S' (te t p) → Q (nI v) S') (h0 : ∀ (S' : St) (g : Nat × Nat) (x : Int32), rdN t lo hi p = .inl g → F2 S S' → FaN S' g → Q x S') : k_m_number E d S (nI lo) (nI hi) Q := by
  have n7 := hT.1.1
  have t4 := tk_4 (t := t) (p := p)
  have g3 := te_le (t := t) hT.2.1
  have bad : ∀ v, 1 ≤ v → v ≤ 5 → rdN t lo hi p = .inl (v, tf t p) → k_m_wrong E (d - 1) S (nI v) (fun S4 => k_m_number_54 E d S4 Q) := fun v a b e => e_wrongN hT hg ⟨a, b⟩ (fun S' f F => by
    refine w_m_number_54 (by omega) (e_badN F ?_)
    rw [if_pos rfl]
    exact h0 S' _ _ e f F)
  refine w_m_number (by omega) (e_okN hg ?_)
  rw [if_neg (by decide), hT.2.2.2.1]
  refine ife (fun e => ?_) (fun e => ?_)
  · have e : nI (tk t p) = nI 2 := e
    rw [nI_eq (by omega) (by omega)] at e
    rw [hT.2.2.2.2.2.1]
    refine ife (fun l => ?_) (fun l => ?_)
    · have l : nI 4 < nI (te t p - tf t p) := l
      rw [nI_ltI (by omega) (by omega)] at l
      exact bad 2 (by omega) (by omega) (by unfold rdN; rw [if_pos e, if_pos (Or.inl l)])
    · have l : ¬ nI 4 < nI (te t p - tf t p) := l
      rw [nI_ltI (by omega) (by omega)] at l
      have n9 := nv_le e l
      have v20 := hT.2.2.2.2.2.2.1 e l
      rw [v20]
      refine ife (fun b => ?_) (fun b => ?_)
      · rw [nI_ltI (by omega) (by omega)] at b
        exact bad 2 (by omega) (by omega) (by unfold rdN; rw [if_pos e, if_pos (Or.inr (Or.inl b))])
      · rw [nI_ltI (by omega) (by omega)] at b
        refine ife (fun c => ?_) (fun c => ?_)
        · rw [nI_leI (by omega) (by omega)] at c
          refine w_m_number_54 (by omega) (e_okN hg ?_)
          rw [if_neg (by decide), v20]
          exact e_nextM (by omega) hT (fun S' f T' => h1 S' (nv t p) (by unfold rdN; rw [if_pos e, if_neg (by omega)]) f T')
        · rw [nI_leI (by omega) (by omega)] at c
          exact bad 2 (by omega) (by omega) (by unfold rdN; rw [if_pos e, if_pos (Or.inr (Or.inr (by omega)))])
  · have e : ¬ nI (tk t p) = nI 2 := e
    rw [nI_eq (by omega) (by omega)] at e
    exact bad 1 (by omega) (by omega) (by unfold rdN; rw [if_neg e])
theorem e_numberX {lo hi : Int32} {g : Nat × Nat} {Q : Int32 → St → Prop} (hd : 1 ≤ d) (hF : FaN S g) (h : Q 0 S) : k_m_number E d S lo hi Q := by
  refine w_m_number (by omega) (e_badN hF ?_)
  rw [if_pos rfl]
  exact h
theorem e_cellHere {w h' : Nat} {Q : Int32 → St → Prop} (hd : 4 ≤ d) (hT : TkM t S p) (hg : S 65 12 = 0) (h23 : S 65 23 = nI w) (h24 : S 65 24 = nI h') (hw : w ≤ 6) (hh : h' ≤ 6) (h1 : ∀ (S' : St) (v : Nat), rdC t (w * h') p = .inr (te t p, v) → FT S S' → TkM t S' (te t p) → Q (nI v) S') (h0 : ∀ (S' : St) (g : Nat × Nat) (x : Int32), rdC t (w * h') p = .inl g → F2 S S' → FaN S' g → Q x S') : k_m_cellHere E d S Q := by
  have n7 := hT.1.1
  have t4 := tk_4 (t := t) (p := p)
  have g3 := te_le (t := t) hT.2.1
  have w36 : w * h' ≤ 36 := Nat.mul_le_mul hw hh
  have bad : ∀ v, 1 ≤ v → v ≤ 5 → rdC t (w * h') p = .inl (v, tf t p) → k_m_wrong E (d - 1) S (nI v) (fun S4 => k_m_cellHere_62 E d S4 Q) := fun v a b e => e_wrongN hT hg ⟨a, b⟩ (fun S' f F => by
    refine w_m_cellHere_62 (by omega) (e_badN F ?_)
    rw [if_pos rfl]
    exact h0 S' _ _ e f F)
  refine w_m_cellHere (by omega) (e_okN hg ?_)
  rw [if_neg (by decide), hT.2.2.2.1]
  refine ife (fun e => ?_) (fun e => ?_)
  · have e : nI (tk t p) = nI 2 := e
    rw [nI_eq (by omega) (by omega)] at e
    rw [hT.2.2.2.2.2.1]
    refine ife (fun l => ?_) (fun l => ?_)
    · have l : nI (te t p - tf t p) ≤ nI 4 := l
      rw [nI_leI (by omega) (by omega)] at l
      have n9 := nv_le e (show ¬ 4 < te t p - tf t p by omega)
      have v20 := hT.2.2.2.2.2.2.1 e (by omega)
      rw [v20, h23, h24, pk_mul]
      refine ife (fun b => ?_) (fun b => ?_)
      · rw [nI_ltI (by omega) (by omega)] at b
        refine w_m_cellHere_62 (by omega) (e_okN hg ?_)
        rw [if_neg (by decide), v20]
        exact e_nextM (by omega) hT (fun S' f T' => h1 S' (nv t p) (by unfold rdC; rw [if_pos e, if_neg (by omega), if_neg (by omega)]) f T')
      · rw [nI_ltI (by omega) (by omega)] at b
        exact bad 3 (by omega) (by omega) (by unfold rdC; rw [if_pos e, if_neg (by omega), if_pos (by omega)])
    · have l : ¬ nI (te t p - tf t p) ≤ nI 4 := l
      rw [nI_leI (by omega) (by omega)] at l
      exact bad 2 (by omega) (by omega) (by unfold rdC; rw [if_pos e, if_pos (by omega)])
  · have e : ¬ nI (tk t p) = nI 2 := e
    rw [nI_eq (by omega) (by omega)] at e
    exact bad 1 (by omega) (by omega) (by unfold rdC; rw [if_neg e])
/-- a sign must stand there -/
theorem e_needS {c : Nat} {Q : St → Prop} (hd : 4 ≤ d) (hT : TkM t S p) (hg : S 65 12 = 0) (hc : c < 256) (h1 : ∀ S' : St, rdS t c p = .inr (te t p) → FT S S' → TkM t S' (te t p) → Q S') (h0 : ∀ (S' : St) (g : Nat × Nat), rdS t c p = .inl g → F2 S S' → FaN S' g → Q S') : k_m_isSign E d S (nI c) (fun x S2 => k_m_need E d S2 x Q) := by
  refine e_isSignM hT hc ?_
  refine w_m_need (by omega) (e_okN hg ?_)
  rw [if_neg (by decide)]
  refine izb (fun e => ?_) (fun e => ?_)
  · exact e_nextM (by omega) hT (fun S' f T' => h1 S' (by unfold rdS; rw [if_pos e]) f T')
  · exact e_wrongN (v := 1) hT hg (by omega) (fun S' f F => h0 S' _ (by unfold rdS; rw [if_neg e]) f F)
theorem e_needX {a : Int32} {g : Nat × Nat} {Q : St → Prop} (hd : 2 ≤ d) (hF : FaN S g) (h : Q S) : k_m_isSign E d S a (fun x S2 => k_m_need E d S2 x Q) := by
  have nd : ∀ x : Int32, k_m_need E d S x Q := fun x => by
    refine w_m_need (by omega) (e_badN hF ?_)
    rw [if_pos rfl]
    exact h
  refine w_m_isSign (ife (fun _ => ife (fun _ => nd _) (fun _ => nd _)) (fun _ => nd _))
end NM
/-- code and rules: the two forms -/
theorem off_L (o : List Tok) : ∀ i, i ≤ o.length → offT (fun i => o.getD i (0, 0)) i = ofL (o.take i)
  | 0, _ => rfl
  | i + 1, hi => by
    rw [offT, off_L o i (by omega), take_s (by omega), ofL_app]
    rfl
theorem CodeAt_i {b : Bool} {f : Nat → Int32} : ∀ (o : List Tok) (a : Nat), CodeAt b f a o → ∀ i, i < o.length → TokAt b f (a + ofL (o.take i)) (o.getD i (0, 0))
  | [], _, _, i, hi => absurd hi (Nat.not_lt_zero i)
  | x :: o, a, h, 0, _ => h.1
  | x :: o, a, h, i + 1, hi => by
    have := CodeAt_i o (a + szT x) h.2 i (by
      have : i + 1 < o.length + 1 := hi
      omega)
    rw [show ofL ((x :: o).take (i + 1)) = szT x + ofL (o.take i) from rfl, ← Nat.add_assoc]
    exact this
theorem RuM_L {b : Bool} {o : List Tok} {f : Nat → Int32} {a : Nat} (h0 : 0 < o.length) (hc : CodeAt b f a o) (he : f (a + ofL o) = 0) (hl : a + ofL o < 1400) (hk : ∀ x, x ∈ o → tOk x) : RuM b (rOf o) (nI a) f := by
  have eo : offT (rOf o).2 (rOf o).1 = ofL o := by
    show offT (fun i => o.getD i (0, 0)) o.length = _
    rw [off_L o _ (Nat.le_refl _), List.take_length]
  refine ⟨fun g => absurd g (by show ¬ o.length = 0; omega), fun _ => ⟨a, rfl, by rw [eo]; exact hl, by rw [eo]; exact he, fun i hi => ?_⟩⟩
  have hi : i < o.length := hi
  have ta := CodeAt_i o a hc i hi
  have eoi : offT (rOf o).2 i = ofL (o.take i) := off_L o i (by omega)
  rw [eoi]
  refine ⟨ta.1, ta.2.1, fun e => ?_, fun e => ?_⟩
  · have e : (o.getD i (0, 0)).1 = 2 := e
    have h := ta.2.2 (by omega)
    rw [e] at h
    exact h
  · have e : 3 ≤ (o.getD i (0, 0)).1 := e
    exact ta.2.2 (by omega)
