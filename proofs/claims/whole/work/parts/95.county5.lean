/-! COUNTY: lines, a whole text, without any machine -/
def upN (f : Nat → Nat) (i v : Nat) : Nat → Nat := fun j => if j = i then v else f j
theorem upN_s (f : Nat → Nat) (i v : Nat) : upN f i v i = v := if_pos rfl
theorem upN_n (f : Nat → Nat) {i j : Nat} (v : Nat) (h : j ≠ i) : upN f i v j = f j := if_neg h
/-- numbers of people and puffballs by kinds: 1 temper, 4 mild, 5 cell, 6 holds -/
abbrev Xst : Type := Nat → Nat → Nat
def uX (X : Xst) (k i v : Nat) : Xst := fun a => if a = k then upN (X k) i v else X a
theorem uX_s (X : Xst) (k i v : Nat) : uX X k i v k = upN (X k) i v := if_pos rfl
theorem uX_n (X : Xst) {k a : Nat} (i v : Nat) (h : a ≠ k) : uX X k i v a = X a := if_neg h
/-- the scene of these -/
def sK (X : Xst) : Scn := fun k i => if k = 8 then -1 else if k = 1 ∨ k = 4 ∨ k = 5 ∨ k = 6 then nI (X k i) else 0
abbrev Kst : Type := Lnd × Xst
def l0 : Lnd := (upN (upN (fun _ => 0) 0 4) 1 4, fun _ => 0, fun _ => 0, (0, fun _ => (0, 0)), (0, fun _ => (0, 0)))
def lMs (l : Lnd) (w h : Nat) : Lnd := (upN (upN l.1 0 w) 1 h, l.2.1, l.2.2.1, l.2.2.2.1, l.2.2.2.2)
def lPn (l : Lnd) (c : Nat) : Lnd := (upN l.1 2 (lp l + 1), upN l.2.1 (lp l) c, l.2.2.1, l.2.2.2.1, l.2.2.2.2)
def lBn (l : Lnd) (z : Nat) : Lnd := (upN l.1 3 (lb l + 1), l.2.1, upN l.2.2.1 (lb l) z, l.2.2.2.1, l.2.2.2.2)
def rOf (o : List Tok) : Rul := (o.length, fun i => o.getD i (0, 0))
def lRn (l : Lnd) (o : List Tok) : Lnd := (l.1, l.2.1, l.2.2.1, rOf o, l.2.2.2.2)
def lUn (l : Lnd) (o : List Tok) : Lnd := (l.1, l.2.1, l.2.2.1, l.2.2.2.1, rOf o)
def rdC (t : Txt) (cells p : Nat) : (Nat × Nat) ⊕ (Nat × Nat) := if tk t p = 2 then (if 4 < te t p - tf t p then .inl (2, tf t p) else if cells ≤ nv t p then .inl (3, tf t p) else .inr (te t p, nv t p)) else .inl (1, tf t p)
def rdS (t : Txt) (c p : Nat) : (Nat × Nat) ⊕ Nat := if isS t p c then .inr (te t p) else .inl (1, tf t p)
abbrev Rl : Type := (Nat × Nat) ⊕ (Nat × Kst)
def wDowns : List Nat := [100, 111, 119, 110, 115]
def wPerson : List Nat := [112, 101, 114, 115, 111, 110]
def wBall : List Nat := [98, 97, 108, 108]
def wRises : List Nat := [114, 105, 115, 101, 115]
def wBursts : List Nat := [98, 117, 114, 115, 116, 115]
/-- the sign at the end of a line -/
def pEnd (t : Txt) (p : Nat) (K : Kst) : Rl := match rdS t 59 p with
  | .inl g => .inl g
  | .inr q => .inr (q, K)
def pPer (t : Txt) (K : Kst) (p : Nat) : Rl := if 7 ≤ lp K.1 then .inl (2, tf t p) else match rdC t (lw K.1 * lh K.1) (te t p) with
  | .inl g => .inl g
  | .inr a => match rdN t 0 9 a.1 with
    | .inl g => .inl g
    | .inr b => match rdN t 0 99 b.1 with
      | .inl g => .inl g
      | .inr c => pEnd t c.1 (lPn K.1 a.2, uX (uX K.2 4 (lp K.1) b.2) 1 (lp K.1) c.2)
def pBal (t : Txt) (K : Kst) (p : Nat) : Rl := if 10 ≤ lb K.1 then .inl (2, tf t p) else match rdC t (lw K.1 * lh K.1) (te t p) with
  | .inl g => .inl g
  | .inr a => match rdN t 1 99 a.1 with
    | .inl g => .inl g
    | .inr b => if isW t b.1 wHolds then (match rdN t 1 b.2 (te t b.1) with
        | .inl g => .inl g
        | .inr c => pEnd t c.1 (lBn K.1 b.2, uX (uX K.2 5 (lb K.1) a.2) 6 (lb K.1) c.2))
      else pEnd t b.1 (lBn K.1 b.2, uX K.2 5 (lb K.1) a.2)
def pRul (t : Txt) (pe : Bool) (K : Kst) (p : Nat) : Rl := if 0 < (if pe then lri K.1 else lbu K.1).1 then .inl (5, tf t p) else match pEx t pe 6 (te t p) with
  | .inl g => .inl g
  | .inr a => pEnd t a.1 (if pe then lRn K.1 a.2 else lUn K.1 a.2, K.2)
def pLine (t : Txt) (K : Kst) (p : Nat) : Rl := if isW t p wPerson then pPer t K p else if isW t p wBall then pBal t K p else if isW t p wRises then pRul t true K p else if isW t p wBursts then pRul t false K p else .inl (1, tf t p)
def lns (t : Txt) : Nat → Nat → Kst → (Nat × Nat) ⊕ Kst
  | 0, _, K => .inr K
  | n + 1, p, K => if tk t p = 0 then .inr K else match pLine t K p with
    | .inl g => .inl g
    | .inr a => lns t n a.1 a.2
def pCty (t : Txt) : (Nat × Nat) ⊕ Kst := if isW t 0 wDowns then (match rdN t 1 6 (te t 0) with
    | .inl g => .inl g
    | .inr a => match rdN t 1 6 a.1 with
      | .inl g => .inl g
      | .inr b => match rdS t 59 b.1 with
        | .inl g => .inl g
        | .inr q => lns t 700 q (lMs l0 a.2 b.2, fun _ _ => 0))
  else lns t 700 0 (l0, fun _ _ => 0)
/-! all is sound -/
theorem okd_take {m : Nat} {o : List Tok} {h h' : Nat} (e : okd m o h = some h') (i : Nat) : ∃ g, okd m (o.take i) h = some g := by
  have : okd m (o.take i ++ o.drop i) h = some h' := by
    rw [List.take_append_drop]
    exact e
  rw [okd_app] at this
  cases hg : okd m (o.take i) h with
  | none =>
    rw [hg] at this
    cases this
  | some g => exact ⟨g, rfl⟩
theorem take_s {o : List Tok} {i : Nat} (h : i < o.length) : o.take (i + 1) = o.take i ++ [o.getD i (0, 0)] := by
  rw [List.take_succ, List.getElem?_eq_getElem h, List.getD_eq_getElem?_getD, List.getElem?_eq_getElem h]
  rfl
theorem okd_rdp {m : Nat} {o : List Tok} {h' : Nat} (e : okd m o 0 = some h') : ∀ i, i ≤ o.length → okd m (o.take i) 0 = some (rdp (fun i => o.getD i (0, 0)) i)
  | 0, _ => rfl
  | i + 1, hi => by
    have ih := okd_rdp e i (by omega)
    obtain ⟨g, hg⟩ := okd_take e (i + 1)
    rw [hg]
    rw [take_s (by omega), okd_app, ih] at hg
    rw [rdp]
    generalize o.getD i (0, 0) = x at hg ⊢
    have hg : (if x.1 ≤ 1 then (if rdp (fun i => o.getD i (0, 0)) i < m then some (rdp (fun i => o.getD i (0, 0)) i + 1) else none) else if x.1 = 2 then (if 1 ≤ rdp (fun i => o.getD i (0, 0)) i then some (rdp (fun i => o.getD i (0, 0)) i) else none) else (if 2 ≤ rdp (fun i => o.getD i (0, 0)) i then some (rdp (fun i => o.getD i (0, 0)) i - 1) else none)) = some g := hg
    split at hg
    · rename_i c
      rw [if_pos c]
      split at hg
      · exact hg.symm
      · cases hg
    · rename_i c
      rw [if_neg c]
      split at hg
      · rename_i c2
        rw [if_pos c2]
        split at hg
        · exact hg.symm
        · cases hg
      · rename_i c2
        rw [if_neg c2]
        split at hg
        · exact hg.symm
        · cases hg
theorem ROk_of {o : List Tok} (e : okd 40 o 0 = some 1) (hl : o.length ≤ 700) (ht : ∀ x, x ∈ o → tOk x) : ROk (rOf o) := by
  refine ⟨fun i hi => ?_, fun h0 => ?_, hl⟩
  · have hi : i < o.length := hi
    have h1 := okd_rdp e i (by omega)
    obtain ⟨g, hg⟩ := okd_take e (i + 1)
    rw [take_s hi, okd_app, h1] at hg
    have hx : tOk (o.getD i (0, 0)) := by
      refine ht _ ?_
      rw [List.getD_eq_getElem?_getD, List.getElem?_eq_getElem hi]
      exact List.getElem_mem hi
    show ((o.getD i (0, 0)).1 ≤ 1 → rdp (fun i => o.getD i (0, 0)) i < 40) ∧ ((o.getD i (0, 0)).1 = 0 → (o.getD i (0, 0)).2 ≤ 9999) ∧ ((o.getD i (0, 0)).1 = 1 → (o.getD i (0, 0)).2 < 5) ∧ ((o.getD i (0, 0)).1 = 2 → 1 ≤ rdp (fun i => o.getD i (0, 0)) i) ∧ (3 ≤ (o.getD i (0, 0)).1 → 2 ≤ rdp (fun i => o.getD i (0, 0)) i) ∧ (o.getD i (0, 0)).1 ≤ 10
    generalize o.getD i (0, 0) = x at hg hx ⊢
    generalize rdp (fun i => o.getD i (0, 0)) i = r at hg ⊢
    have hg : (if x.1 ≤ 1 then (if r < 40 then some (r + 1) else none) else if x.1 = 2 then (if 1 ≤ r then some r else none) else (if 2 ≤ r then some (r - 1) else none)) = some g := hg
    refine ⟨fun c => ?_, hx.1, hx.2.1, fun c => ?_, fun c => ?_, hx.2.2⟩
    · rw [if_pos c] at hg
      split at hg
      · assumption
      · cases hg
    · rw [if_neg (by omega), if_pos c] at hg
      split at hg
      · assumption
      · cases hg
    · rw [if_neg (by omega), if_neg (by omega)] at hg
      split at hg
      · assumption
      · cases hg
  · have h1 := okd_rdp e o.length (Nat.le_refl _)
    rw [List.take_length, e] at h1
    exact (Option.some.inj h1).symm
def KOk (K : Kst) : Prop := LOk K.1 ∧ (∀ x, x < lb K.1 → K.2 5 x < lw K.1 * lh K.1 ∧ K.2 6 x ≤ 99) ∧ (∀ p, p < lp K.1 → K.2 1 p ≤ 99 ∧ K.2 4 p ≤ 9) ∧ ∀ x, lb K.1 ≤ x → K.2 6 x = 0
section KS
variable {t : Txt} {p : Nat}
theorem step_p (hp : p ≤ t.1) (hk : ¬ tk t p = 0) : p < te t p ∧ te t p ≤ t.1 := by
  have := te_gt hk
  have := tf_ge (t := t) (p := p)
  exact ⟨by omega, te_le hp⟩
theorem rdN_r {lo hi : Nat} {a : Nat × Nat} (hp : p ≤ t.1) (h : rdN t lo hi p = .inr a) : p < a.1 ∧ a.1 ≤ t.1 ∧ lo ≤ a.2 ∧ a.2 ≤ hi := by
  unfold rdN at h
  split at h
  · rename_i e
    have s := step_p hp (show ¬ tk t p = 0 by omega)
    split at h
    · cases h
    · cases h
      exact ⟨s.1, s.2, by show lo ≤ nv t p; omega, by show nv t p ≤ hi; omega⟩
  · cases h
theorem rdC_r {c : Nat} {a : Nat × Nat} (hp : p ≤ t.1) (h : rdC t c p = .inr a) : p < a.1 ∧ a.1 ≤ t.1 ∧ a.2 < c := by
  unfold rdC at h
  split at h
  · rename_i e
    have s := step_p hp (show ¬ tk t p = 0 by omega)
    split at h
    · cases h
    · split at h
      · cases h
      · cases h
        exact ⟨s.1, s.2, by show nv t p < c; omega⟩
  · cases h
theorem rdS_r {c q : Nat} (hp : p ≤ t.1) (h : rdS t c p = .inr q) : p < q ∧ q ≤ t.1 := by
  unfold rdS at h
  split at h
  · rename_i e
    cases h
    exact step_p hp (isS_k e)
  · cases h
theorem pEnd_r {K : Kst} {a : Nat × Kst} (hp : p ≤ t.1) (h : pEnd t p K = .inr a) : a.2 = K ∧ p < a.1 ∧ a.1 ≤ t.1 := by
  unfold pEnd at h
  cases e : rdS t 59 p with
  | inl g =>
    rw [e] at h
    cases h
  | inr q =>
    rw [e] at h
    cases h
    exact ⟨rfl, rdS_r hp e⟩
theorem LOk_r {l : Lnd} {o : List Tok} (h : LOk l) (hr : ROk (rOf o)) : LOk (lRn l o) ∧ LOk (lUn l o) := by
  obtain ⟨h1, h2, h3, h4, h5, h6, h7, h8, h9, h10⟩ := h
  exact ⟨⟨h1, h2, h3, h4, h5, h6, h7, h8, hr, h10⟩, ⟨h1, h2, h3, h4, h5, h6, h7, h8, h9, hr⟩⟩
theorem KOk_per {K : Kst} {c m v : Nat} (h : KOk K) (h7 : ¬ 7 ≤ lp K.1) (hc : c < lw K.1 * lh K.1) (hm : m ≤ 9) (hv : v ≤ 99) : KOk (lPn K.1 c, uX (uX K.2 4 (lp K.1) m) 1 (lp K.1) v) := by
  obtain ⟨⟨h1, h2, h3, h4, h5, h6, g7, h8, h9, h10⟩, k2, k3, k4⟩ := h
  have ep : lp (lPn K.1 c) = lp K.1 + 1 := rfl
  refine ⟨⟨h1, h2, h3, h4, by rw [ep]; omega, h6, fun i hi => ?_, h8, h9, h10⟩, k2, fun q hq => ?_, k4⟩
  · rw [ep] at hi
    show upN K.1.2.1 (lp K.1) c i < _
    by_cases e : i = lp K.1
    · rw [e, upN_s]
      exact hc
    · rw [upN_n _ _ e]
      exact g7 i (by omega)
  · have hq : q < lp K.1 + 1 := hq
    show upN (uX K.2 4 (lp K.1) m 1) (lp K.1) v q ≤ 99 ∧ upN (K.2 4) (lp K.1) m q ≤ 9
    by_cases e : q = lp K.1
    · rw [e, upN_s, upN_s]
      exact ⟨hv, hm⟩
    · rw [upN_n _ _ e, upN_n _ _ e]
      exact k3 q (by omega)
theorem KOk_bal {K : Kst} {c z : Nat} (h : KOk K) (h10 : ¬ 10 ≤ lb K.1) (hc : c < lw K.1 * lh K.1) (hz : 1 ≤ z ∧ z ≤ 99) : KOk (lBn K.1 z, uX K.2 5 (lb K.1) c) ∧ ∀ v, v ≤ 99 → KOk (lBn K.1 z, uX (uX K.2 5 (lb K.1) c) 6 (lb K.1) v) := by
  obtain ⟨⟨h1, h2, h3, h4, h5, h6, g7, h8, h9, h11⟩, k2, k3, k4⟩ := h
  have L : LOk (lBn K.1 z) := by
    refine ⟨h1, h2, h3, h4, h5, by show lb K.1 + 1 ≤ 10; omega, g7, fun x hx => ?_, h9, h11⟩
    have hx : x < lb K.1 + 1 := hx
    show 1 ≤ upN K.1.2.2.1 (lb K.1) z x ∧ upN K.1.2.2.1 (lb K.1) z x ≤ 99
    by_cases e : x = lb K.1
    · rw [e, upN_s]
      exact hz
    · rw [upN_n _ _ e]
      exact h8 x (by omega)
  refine ⟨⟨L, fun x hx => ?_, k3, fun x hx => ?_⟩, fun v hv => ⟨L, fun x hx => ?_, k3, fun x hx => ?_⟩⟩
  · have hx : x < lb K.1 + 1 := hx
    show upN (K.2 5) (lb K.1) c x < _ ∧ K.2 6 x ≤ 99
    by_cases e : x = lb K.1
    · rw [e, upN_s, k4 _ (Nat.le_refl _)]
      exact ⟨hc, by omega⟩
    · rw [upN_n _ _ e]
      exact k2 x (by omega)
  · have hx : lb K.1 + 1 ≤ x := hx
    exact k4 x (by omega)
  · have hx : x < lb K.1 + 1 := hx
    show upN (K.2 5) (lb K.1) c x < _ ∧ upN (K.2 6) (lb K.1) v x ≤ 99
    by_cases e : x = lb K.1
    · rw [e, upN_s, upN_s]
      exact ⟨hc, hv⟩
    · rw [upN_n _ _ e, upN_n _ _ e]
      exact k2 x (by omega)
  · have hx : lb K.1 + 1 ≤ x := hx
    show upN (K.2 6) (lb K.1) v x = 0
    rw [upN_n _ _ (by omega)]
    exact k4 x (by omega)
/-- a line that is well: where it ends, what is told then -/
theorem pPer_ok {K : Kst} (hp : p ≤ t.1) (hK : KOk K) (hw : ¬ tk t p = 0) {a : Nat × Kst} (h : pPer t K p = .inr a) : p < a.1 ∧ a.1 ≤ t.1 ∧ KOk a.2 := by
  have s0 := step_p hp hw
  unfold pPer at h
  by_cases h7 : 7 ≤ lp K.1
  · rw [if_pos h7] at h
    cases h
  rw [if_neg h7] at h
  cases e1 : rdC t (lw K.1 * lh K.1) (te t p) with
  | inl g =>
    rw [e1] at h
    cases h
  | inr a1 =>
    rw [e1] at h
    simp only at h
    have r1 := rdC_r s0.2 e1
    cases e2 : rdN t 0 9 a1.1 with
    | inl g =>
      rw [e2] at h
      cases h
    | inr b1 =>
      rw [e2] at h
      simp only at h
      have r2 := rdN_r r1.2.1 e2
      cases e3 : rdN t 0 99 b1.1 with
      | inl g =>
        rw [e3] at h
        cases h
      | inr c1 =>
        rw [e3] at h
        simp only at h
        have r3 := rdN_r r2.2.1 e3
        have r4 := pEnd_r r3.2.1 h
        refine ⟨by omega, r4.2.2, ?_⟩
        rw [r4.1]
        exact KOk_per hK h7 r1.2.2 r2.2.2.2 r3.2.2.2
theorem pBal_ok {K : Kst} (hp : p ≤ t.1) (hK : KOk K) (hw : ¬ tk t p = 0) {a : Nat × Kst} (h : pBal t K p = .inr a) : p < a.1 ∧ a.1 ≤ t.1 ∧ KOk a.2 := by
  have s0 := step_p hp hw
  unfold pBal at h
  by_cases h10 : 10 ≤ lb K.1
  · rw [if_pos h10] at h
    cases h
  rw [if_neg h10] at h
  cases e1 : rdC t (lw K.1 * lh K.1) (te t p) with
  | inl g =>
    rw [e1] at h
    cases h
  | inr a1 =>
    rw [e1] at h
    simp only at h
    have r1 := rdC_r s0.2 e1
    cases e2 : rdN t 1 99 a1.1 with
    | inl g =>
      rw [e2] at h
      cases h
    | inr b1 =>
      rw [e2] at h
      simp only at h
      have r2 := rdN_r r1.2.1 e2
      have kb := KOk_bal (c := a1.2) (z := b1.2) hK h10 r1.2.2 r2.2.2
      by_cases hw2 : isW t b1.1 wHolds = true
      · rw [if_pos hw2] at h
        have s3 := step_p r2.2.1 (isW_k hw2)
        cases e3 : rdN t 1 b1.2 (te t b1.1) with
        | inl g =>
          rw [e3] at h
          cases h
        | inr c1 =>
          rw [e3] at h
          simp only at h
          have r3 := rdN_r s3.2 e3
          have r4 := pEnd_r r3.2.1 h
          refine ⟨by omega, r4.2.2, ?_⟩
          rw [r4.1]
          exact kb.2 c1.2 (by omega)
      · rw [if_neg hw2] at h
        have r4 := pEnd_r r2.2.1 h
        refine ⟨by omega, r4.2.2, ?_⟩
        rw [r4.1]
        exact kb.1
theorem pRul_ok {K : Kst} {pe : Bool} (hp : p ≤ t.1) (h7 : t.1 ≤ 700) (hK : KOk K) (hw : ¬ tk t p = 0) {a : Nat × Kst} (h : pRul t pe K p = .inr a) : p < a.1 ∧ a.1 ≤ t.1 ∧ KOk a.2 := by
  have s0 := step_p hp hw
  unfold pRul at h
  by_cases ht : 0 < (if pe then lri K.1 else lbu K.1).1
  · rw [if_pos ht] at h
    cases h
  rw [if_neg ht] at h
  have pg := PG_ex (t := t) (pe := pe) 6 (te t p) s0.2
  cases e1 : pEx t pe 6 (te t p) with
  | inl g =>
    rw [e1] at h
    cases h
  | inr a1 =>
    rw [e1] at h pg
    simp only at h
    have r4 := pEnd_r pg.2.1 h
    have g1 := pg.1
    have g2 := pg.2.1
    have g3 := pg.2.2.1
    have hr : ROk (rOf a1.2) := ROk_of (pg.2.2.2.1 0 40 (by omega)) (by omega) pg.2.2.2.2
    have hl := LOk_r hK.1 hr
    refine ⟨by omega, r4.2.2, ?_⟩
    rw [r4.1]
    cases pe with
    | true => exact ⟨hl.1, hK.2.1, hK.2.2.1, hK.2.2.2⟩
    | false => exact ⟨hl.2, hK.2.1, hK.2.2.1, hK.2.2.2⟩
theorem pLine_ok {K : Kst} (hp : p ≤ t.1) (h7 : t.1 ≤ 700) (hK : KOk K) {a : Nat × Kst} (h : pLine t K p = .inr a) : p < a.1 ∧ a.1 ≤ t.1 ∧ KOk a.2 := by
  unfold pLine at h
  split at h
  · rename_i e
    exact pPer_ok hp hK (isW_k e) h
  · split at h
    · rename_i e
      exact pBal_ok hp hK (isW_k e) h
    · split at h
      · rename_i e
        exact pRul_ok hp h7 hK (isW_k e) h
      · split at h
        · rename_i e
          exact pRul_ok hp h7 hK (isW_k e) h
        · cases h
theorem KOk_0 {w h : Nat} (hw : 1 ≤ w ∧ w ≤ 6) (hh : 1 ≤ h ∧ h ≤ 6) : KOk (lMs l0 w h, fun _ _ => 0) := by
  have r0 : ROk (0, fun _ => (0, 0)) := ⟨fun i hi => absurd hi (Nat.not_lt_zero i), fun h => absurd h (Nat.lt_irrefl _), Nat.zero_le _⟩
  exact ⟨⟨hw.1, hw.2, hh.1, hh.2, Nat.zero_le _, Nat.zero_le _, fun i hi => absurd hi (Nat.not_lt_zero i), fun i hi => absurd hi (Nat.not_lt_zero i), r0, r0⟩, fun i hi => absurd hi (Nat.not_lt_zero i), fun i hi => absurd hi (Nat.not_lt_zero i), fun _ _ => rfl⟩
theorem l0_ms : lMs l0 4 4 = l0 := by
  unfold lMs l0
  refine Prod.ext ?_ rfl
  funext j
  show upN (upN (upN (upN (fun _ => 0) 0 4) 1 4) 0 4) 1 4 j = upN (upN (fun _ => 0) 0 4) 1 4 j
  unfold upN
  by_cases h1 : j = 1
  · rw [if_pos h1, if_pos h1]
  · rw [if_neg h1, if_neg h1]
    by_cases h0 : j = 0
    · rw [if_pos h0, if_pos h0]
    · rw [if_neg h0, if_neg h0]
theorem lns_ok (h7 : t.1 ≤ 700) : ∀ n p K, p ≤ t.1 → KOk K → ∀ K', lns t n p K = .inr K' → KOk K'
  | 0, p, K, hp, hK, K', h => by
    cases h
    exact hK
  | n + 1, p, K, hp, hK, K', h => by
    unfold lns at h
    split at h
    · cases h
      exact hK
    · split at h
      · cases h
      · rename_i a e
        have r := pLine_ok hp h7 hK e
        exact lns_ok h7 n a.1 a.2 r.2.1 r.2.2 K' h
theorem pCty_ok (h7 : t.1 ≤ 700) {K : Kst} (h : pCty t = .inr K) : KOk K := by
  have k4 : KOk (l0, fun _ _ => 0) := by
    rw [← l0_ms]
    exact KOk_0 (by omega) (by omega)
  unfold pCty at h
  split at h
  · rename_i hw
    have s0 := step_p (t := t) (p := 0) (Nat.zero_le _) (isW_k hw)
    cases e1 : rdN t 1 6 (te t 0) with
    | inl g =>
      rw [e1] at h
      cases h
    | inr a =>
      rw [e1] at h
      simp only at h
      have r1 := rdN_r s0.2 e1
      cases e2 : rdN t 1 6 a.1 with
      | inl g =>
        rw [e2] at h
        cases h
      | inr b =>
        rw [e2] at h
        simp only at h
        have r2 := rdN_r r1.2.1 e2
        cases e3 : rdS t 59 b.1 with
        | inl g =>
          rw [e3] at h
          cases h
        | inr q =>
          rw [e3] at h
          simp only at h
          exact lns_ok h7 700 q _ (rdS_r r2.2.1 e3).2 (KOk_0 r1.2.2 r2.2.2) K h
  · exact lns_ok h7 700 0 _ (Nat.zero_le _) k4 K h
end KS
