/-! COUNTY: bytes, tokens, rules, without any machine -/
def isL (c : Nat) : Bool := decide (97 ≤ c ∧ c ≤ 122)
def isD (c : Nat) : Bool := decide (48 ≤ c ∧ c ≤ 57)
def isP (c : Nat) : Bool := decide (c = 32 ∨ c = 10)
def sgn9 : List Nat := [59, 40, 41, 43, 45, 42, 47, 60, 61]
/-- a text: how long, its bytes -/
abbrev Txt : Type := Nat × (Nat → Nat)
def wlk (t : Txt) (q : Nat → Bool) : Nat → Nat → Nat
  | 0, p => p
  | k + 1, p => if p < t.1 ∧ q (t.2 p) = true then wlk t q k (p + 1) else p
/-- as far as all are so -/
def wl (t : Txt) (q : Nat → Bool) (p : Nat) : Nat := wlk t q (t.1 - p) p
section WL
variable {t : Txt} {q : Nat → Bool} {p : Nat}
theorem wl_s (h : p < t.1) (hq : q (t.2 p) = true) : wl t q p = wl t q (p + 1) := by
  unfold wl
  rw [show t.1 - p = (t.1 - (p + 1)) + 1 by omega]
  show (if _ then _ else _) = _
  rw [if_pos ⟨h, hq⟩]
theorem wl_e (h : ¬ (p < t.1 ∧ q (t.2 p) = true)) : wl t q p = p := by
  unfold wl
  cases t.1 - p with
  | zero => rfl
  | succ k =>
    show (if _ then _ else _) = _
    rw [if_neg h]
theorem wlk_ok : ∀ k p, p ≤ wlk t q k p ∧ wlk t q k p ≤ p + k ∧ (∀ i, p ≤ i → i < wlk t q k p → q (t.2 i) = true) ∧ (wlk t q k p < p + k → ¬ (wlk t q k p < t.1 ∧ q (t.2 (wlk t q k p)) = true))
  | 0, p => ⟨Nat.le_refl _, Nat.le_refl _, fun i h1 h2 => absurd h1 (by have : i < p := h2; omega), fun h => absurd h (Nat.lt_irrefl p)⟩
  | k + 1, p => by
    show p ≤ (if p < t.1 ∧ q (t.2 p) = true then wlk t q k (p + 1) else p) ∧ _
    by_cases h : p < t.1 ∧ q (t.2 p) = true
    · have e : wlk t q (k + 1) p = wlk t q k (p + 1) := if_pos h
      rw [e, if_pos h]
      have ih := wlk_ok k (p + 1)
      refine ⟨by omega, by omega, fun i h1 h2 => ?_, fun g => ih.2.2.2 (by omega)⟩
      by_cases e2 : i = p
      · rw [e2]
        exact h.2
      · exact ih.2.2.1 i (by omega) h2
    · have e : wlk t q (k + 1) p = p := if_neg h
      rw [e, if_neg h]
      exact ⟨Nat.le_refl _, by omega, fun i h1 h2 => by omega, fun _ => h⟩
theorem wl_ge : p ≤ wl t q p := (wlk_ok _ _).1
theorem wl_le (h : p ≤ t.1) : wl t q p ≤ t.1 := by
  have := (wlk_ok (t := t) (q := q) (t.1 - p) p).2.1
  unfold wl
  omega
theorem wl_all {i : Nat} (h1 : p ≤ i) (h2 : i < wl t q p) : q (t.2 i) = true := (wlk_ok _ _).2.2.1 i h1 h2
theorem wl_end (h : wl t q p < t.1) (hp : p ≤ t.1) : q (t.2 (wl t q p)) = false := by
  have := (wlk_ok (t := t) (q := q) (t.1 - p) p).2.2.2
  cases hq : q (t.2 (wl t q p)) with
  | false => rfl
  | true => exact absurd ⟨h, hq⟩ (this (by unfold wl at h; omega))
end WL
/-- of the token from p on: where it begins, its kind (0 end, 1 word, 2 number, 3 sign, 4 none), where it ends -/
def tf (t : Txt) (p : Nat) : Nat := wl t isP p
def tk (t : Txt) (p : Nat) : Nat := if t.1 ≤ tf t p then 0 else if isL (t.2 (tf t p)) then 1 else if isD (t.2 (tf t p)) then 2 else if t.2 (tf t p) ∈ sgn9 then 3 else 4
def te (t : Txt) (p : Nat) : Nat := if tk t p = 0 then tf t p else if tk t p = 1 then wl t isL (tf t p) else if tk t p = 2 then wl t isD (tf t p) else tf t p + 1
def nvl (t : Txt) (a : Nat) : Nat → Nat
  | 0 => 0
  | k + 1 => nvl t a k * 10 + (t.2 (a + k) - 48)
/-- the number that a token is -/
def nv (t : Txt) (p : Nat) : Nat := nvl t (tf t p) (te t p - tf t p)
def isW (t : Txt) (p : Nat) (w : List Nat) : Bool := decide (tk t p = 1 ∧ te t p - tf t p = w.length ∧ ∀ i, i < w.length → t.2 (tf t p + i) = w.getD i 0)
def isS (t : Txt) (p c : Nat) : Bool := decide (tk t p = 3 ∧ t.2 (tf t p) = c)
section TK
variable {t : Txt} {p : Nat}
theorem tk_4 : tk t p ≤ 4 := by
  unfold tk
  split
  · omega
  · split
    · omega
    · split
      · omega
      · split <;> omega
theorem tk_0 : tk t p = 0 ↔ t.1 ≤ tf t p := by
  unfold tk
  by_cases h : t.1 ≤ tf t p
  · rw [if_pos h]
    exact ⟨fun _ => h, fun _ => rfl⟩
  · rw [if_neg h]
    refine ⟨fun e => ?_, fun e => absurd e h⟩
    split at e
    · cases e
    · split at e
      · cases e
      · split at e <;> cases e
theorem tf_ge : p ≤ tf t p := wl_ge
theorem tf_le (h : p ≤ t.1) : tf t p ≤ t.1 := wl_le h
theorem tk_1 : tk t p = 1 ↔ (tf t p < t.1 ∧ isL (t.2 (tf t p)) = true) := by
  unfold tk
  by_cases h : t.1 ≤ tf t p
  · rw [if_pos h]
    exact ⟨(fun e => by cases e), fun e => by omega⟩
  · rw [if_neg h]
    cases hL : isL (t.2 (tf t p)) with
    | true => exact ⟨fun _ => ⟨by omega, rfl⟩, fun _ => rfl⟩
    | false =>
      refine ⟨fun e => ?_, fun e => by cases e.2⟩
      rw [if_neg (by decide)] at e
      split at e
      · cases e
      · split at e <;> cases e
theorem te_ge : tf t p ≤ te t p := by
  unfold te
  split
  · exact Nat.le_refl _
  · split
    · exact wl_ge
    · split
      · exact wl_ge
      · omega
theorem te_gt (h : ¬ tk t p = 0) : tf t p < te t p := by
  have h0 : tf t p < t.1 := by
    rw [tk_0] at h
    omega
  unfold te
  rw [if_neg h]
  split
  · rename_i h1
    have := tk_1.mp h1
    rw [wl_s h0 this.2]
    exact Nat.lt_of_lt_of_le (Nat.lt_succ_self _) wl_ge
  · split
    · rename_i h1 h2
      have hD : isD (t.2 (tf t p)) = true := by
        unfold tk at h2
        rw [if_neg (by omega)] at h2
        cases hL : isL (t.2 (tf t p)) with
        | true =>
          rw [hL] at h2
          cases h2
        | false =>
          rw [hL, if_neg (by decide)] at h2
          cases hD : isD (t.2 (tf t p)) with
          | true => rfl
          | false =>
            rw [hD, if_neg (by decide)] at h2
            split at h2 <;> cases h2
      rw [wl_s h0 hD]
      exact Nat.lt_of_lt_of_le (Nat.lt_succ_self _) wl_ge
    · omega
theorem te_le (h : p ≤ t.1) : te t p ≤ t.1 := by
  have h1 := tf_le h
  unfold te
  split
  · exact h1
  · rename_i h0
    rw [tk_0] at h0
    split
    · exact wl_le h1
    · split
      · exact wl_le h1
      · omega
theorem isS_k {c : Nat} (h : isS t p c = true) : ¬ tk t p = 0 := fun e => by
  have := of_decide_eq_true h
  omega
theorem isW_k {w : List Nat} (h : isW t p w = true) : ¬ tk t p = 0 := fun e => by
  have := of_decide_eq_true h
  omega
end TK
/-- what reading gives: a fault (which, where), or where the next token is looked for, and what was told -/
abbrev Rs : Type := (Nat × Nat) ⊕ (Nat × List Tok)
def wOr : List Nat := [111, 114]
def wAnd : List Nat := [97, 110, 100]
def wNot : List Nat := [110, 111, 116]
def wDay : List Nat := [100, 97, 121]
def wHolds : List Nat := [104, 111, 108, 100, 115]
def wvl (pe : Bool) (k : Nat) : List Nat := if pe then (if k = 0 then [109, 105, 108, 100] else if k = 1 then [116, 101, 109, 112, 101, 114] else if k = 2 then [115, 104, 111, 117, 116, 115] else if k = 3 then [104, 101, 97, 114, 100] else wDay) else (if k = 0 then wHolds else if k = 1 then [115, 105, 122, 101] else if k = 2 then [97, 103, 101] else if k = 3 then [110, 101, 97, 114] else wDay)
def vlu (t : Txt) (pe : Bool) (p : Nat) : Option Nat := fstF (fun k => isW t p (wvl pe k)) 5
def pPart (t : Txt) (pe : Bool) (ex : Nat → Rs) (p : Nat) : Rs :=
  if tk t p = 2 then (if 4 < te t p - tf t p then .inl (2, tf t p) else .inr (te t p, [(0, nv t p)]))
  else if tk t p = 1 then (match vlu t pe p with
    | none => .inl (3, tf t p)
    | some k => .inr (te t p, [(1, k)]))
  else if isS t p 40 then (match ex (te t p) with
    | .inl f => .inl f
    | .inr r => if isS t r.1 41 then .inr (te t r.1, r.2) else .inl (1, tf t r.1))
  else .inl (1, tf t p)
/-- one more, as long as a sign for it stands there -/
def lpf (t : Txt) (op : Nat → Option Nat) (nx : Nat → Rs) : Nat → Nat → List Tok → Rs
  | 0, p, o => .inr (p, o)
  | n + 1, p, o => match op p with
    | none => .inr (p, o)
    | some k => match nx (te t p) with
      | .inl f => .inl f
      | .inr r => lpf t op nx n r.1 (o ++ r.2 ++ [(k, 0)])
def opM (t : Txt) (p : Nat) : Option Nat := if isS t p 42 then some 9 else if isS t p 47 then some 10 else none
def opA (t : Txt) (p : Nat) : Option Nat := if isS t p 43 then some 7 else if isS t p 45 then some 8 else none
def opT (t : Txt) (p : Nat) : Option Nat := if isS t p 60 then some 5 else if isS t p 61 then some 6 else none
def opN (t : Txt) (p : Nat) : Option Nat := if isW t p wAnd then some 4 else none
def opO (t : Txt) (p : Nat) : Option Nat := if isW t p wOr then some 3 else none
def pLp (t : Txt) (op : Nat → Option Nat) (nx : Nat → Rs) (p : Nat) : Rs := match nx p with
  | .inl f => .inl f
  | .inr r => lpf t op nx 700 r.1 r.2
def pTest (t : Txt) (nx : Nat → Rs) (p : Nat) : Rs := match nx p with
  | .inl f => .inl f
  | .inr r => match opT t r.1 with
    | none => .inr r
    | some k => match nx (te t r.1) with
      | .inl f => .inl f
      | .inr q => .inr (q.1, r.2 ++ q.2 ++ [(k, 0)])
/-- nots, at most so many more: how many, where they end -/
def nts (t : Txt) : Nat → Nat → Nat × Nat
  | 0, p => (0, p)
  | n + 1, p => if isW t p wNot then ((nts t n (te t p)).1 + 1, (nts t n (te t p)).2) else (0, p)
def pNot (t : Txt) (nx : Nat → Rs) (p : Nat) : Rs :=
  if (nts t 6 p).1 = 6 ∧ isW t (nts t 6 p).2 wNot = true then .inl (2, tf t (nts t 6 p).2) else match nx (nts t 6 p).2 with
    | .inl f => .inl f
    | .inr q => .inr (q.1, q.2 ++ List.replicate (nts t 6 p).1 (2, 0))
/-- an expression, so many levels deep at the most -/
def pEx (t : Txt) (pe : Bool) : Nat → Nat → Rs
  | 0, p => .inl (if tk t p = 2 ∨ tk t p = 1 ∨ isS t p 40 = true then 2 else 1, tf t p)
  | n + 1, p => pLp t (opO t) (pLp t (opN t) (pNot t (pTest t (pLp t (opA t) (pLp t (opM t) (pPart t pe (pEx t pe n))))))) p
/-! what is told is sound -/
def okd (m : Nat) : List Tok → Nat → Option Nat
  | [], h => some h
  | x :: o, h => if x.1 ≤ 1 then (if h < m then okd m o (h + 1) else none) else if x.1 = 2 then (if 1 ≤ h then okd m o h else none) else (if 2 ≤ h then okd m o (h - 1) else none)
theorem okd_app {m : Nat} : ∀ (o o' : List Tok) (h : Nat), okd m (o ++ o') h = (okd m o h).bind (okd m o')
  | [], _, _ => rfl
  | x :: o, o', h => by
    show okd m (x :: (o ++ o')) h = (okd m (x :: o) h).bind (okd m o')
    unfold okd
    split
    · split
      · exact okd_app o o' _
      · rfl
    · split
      · split
        · exact okd_app o o' _
        · rfl
      · split
        · exact okd_app o o' _
        · rfl
def tOk (x : Tok) : Prop := (x.1 = 0 → x.2 ≤ 9999) ∧ (x.1 = 1 → x.2 < 5) ∧ x.1 ≤ 10
/-- from p on something of depth D was read -/
def PG (t : Txt) (D p : Nat) : Rs → Prop
  | .inl _ => True
  | .inr r => p < r.1 ∧ r.1 ≤ t.1 ∧ r.2.length ≤ r.1 - p ∧ (∀ h m, h + D ≤ m → okd m r.2 h = some (h + 1)) ∧ ∀ x, x ∈ r.2 → tOk x
section PGS
variable {t : Txt}
theorem PG_mono {D D' p : Nat} {r : Rs} (h : PG t D p r) (hd : D ≤ D') : PG t D' p r := by
  cases r with
  | inl f => trivial
  | inr r => exact ⟨h.1, h.2.1, h.2.2.1, fun a m g => h.2.2.2.1 a m (by omega), h.2.2.2.2⟩
theorem nvl_lt {a : Nat} : ∀ k, (∀ i, i < k → isD (t.2 (a + i)) = true) → nvl t a k < 10 ^ k
  | 0, _ => Nat.one_pos
  | k + 1, h => by
    have ih := nvl_lt (a := a) k (fun i hi => h i (by omega))
    have hd := of_decide_eq_true (h k (by omega))
    have h2 : t.2 (a + k) - 48 ≤ 9 := by omega
    rw [nvl, Nat.pow_succ]
    omega
theorem tk_2 {p : Nat} (h : tk t p = 2) : tf t p < t.1 ∧ isD (t.2 (tf t p)) = true ∧ te t p = wl t isD (tf t p) := by
  have h0 : ¬ t.1 ≤ tf t p := fun g => by
    rw [tk_0.mpr g] at h
    cases h
  refine ⟨by omega, ?_, ?_⟩
  · unfold tk at h
    rw [if_neg h0] at h
    cases hL : isL (t.2 (tf t p)) with
    | true =>
      rw [hL] at h
      cases h
    | false =>
      rw [hL, if_neg (by decide)] at h
      cases hD : isD (t.2 (tf t p)) with
      | true => rfl
      | false =>
        rw [hD, if_neg (by decide)] at h
        split at h <;> cases h
  · unfold te
    rw [if_neg (by omega), if_neg (by omega), if_pos h]
theorem nv_le {p : Nat} (h : tk t p = 2) (h4 : ¬ 4 < te t p - tf t p) : nv t p ≤ 9999 := by
  have h2 := tk_2 h
  have := nvl_lt (t := t) (a := tf t p) (te t p - tf t p) (fun i hi => by
    refine wl_all (p := tf t p) (by omega) ?_
    rw [← h2.2.2]
    omega)
  have p4 : 10 ^ (te t p - tf t p) ≤ 10 ^ 4 := Nat.pow_le_pow_right (by decide) (by omega)
  unfold nv
  omega
theorem vlu_lt {pe : Bool} {p k : Nat} (h : vlu t pe p = some k) : k < 5 := (fstF_inv _ _ h).2.1
theorem PG_part {pe : Bool} {ex : Nat → Rs} {D p : Nat} (hp : p ≤ t.1) (hD : 1 ≤ D) (hx : ∀ q, q ≤ t.1 → PG t D q (ex q)) : PG t D p (pPart t pe ex p) := by
  have g1 := tf_ge (t := t) (p := p)
  unfold pPart
  split
  · rename_i h2
    split
    · trivial
    · rename_i h4
      have := te_gt (t := t) (p := p) (by omega)
      refine ⟨by show p < te t p; omega, te_le hp, by show 1 ≤ te t p - p; omega, fun h m hm => ?_, fun x hx => ?_⟩
      · show (if 0 ≤ 1 then (if h < m then some (h + 1) else none) else _) = _
        rw [if_pos (by omega), if_pos (by omega)]
      · rw [List.mem_singleton.mp hx]
        exact ⟨fun _ => nv_le h2 h4, (fun e => by cases e), Nat.zero_le _⟩
  · split
    · rename_i h2
      have := te_gt (t := t) (p := p) (by omega)
      cases hv : vlu t pe p with
      | none => trivial
      | some k =>
        refine ⟨by show p < te t p; omega, te_le hp, by show 1 ≤ te t p - p; omega, fun h m hm => ?_, fun x hx => ?_⟩
        · show (if 1 ≤ 1 then (if h < m then some (h + 1) else none) else _) = _
          rw [if_pos (by omega), if_pos (by omega)]
        · rw [List.mem_singleton.mp hx]
          exact ⟨fun e => (by cases e), fun _ => vlu_lt hv, by show 1 ≤ 10; omega⟩
    · split
      · rename_i hs
        have := te_gt (t := t) (p := p) (isS_k hs)
        have hx := hx (te t p) (te_le hp)
        cases he : ex (te t p) with
        | inl f => trivial
        | inr r =>
          rw [he] at hx
          show PG t D p (if isS t r.1 41 then .inr (te t r.1, r.2) else .inl (1, tf t r.1))
          split
          · rename_i hs2
            have g2 := te_gt (t := t) (p := r.1) (isS_k hs2)
            have g3 := tf_ge (t := t) (p := r.1)
            have g4 := hx.1
            refine ⟨by show p < te t r.1; omega, te_le hx.2.1, ?_, hx.2.2.2.1, hx.2.2.2.2⟩
            have := hx.2.2.1
            show r.2.length ≤ te t r.1 - p
            omega
          · trivial
      · trivial
theorem lpf_ok {op : Nat → Option Nat} {nx : Nat → Rs} {D p0 : Nat} (hop : ∀ p k, op p = some k → ¬ tk t p = 0 ∧ 3 ≤ k ∧ k ≤ 10) (hx : ∀ q, q ≤ t.1 → PG t D q (nx q)) : ∀ n p o, PG t (D + 1) p0 (.inr (p, o)) → PG t (D + 1) p0 (lpf t op nx n p o)
  | 0, p, o, h => h
  | n + 1, p, o, h => by
    unfold lpf
    cases ho : op p with
    | none => exact h
    | some k =>
      have hk := hop p k ho
      have g1 := te_gt (t := t) (p := p) hk.1
      have g2 := tf_ge (t := t) (p := p)
      have hx1 := hx (te t p) (te_le h.2.1)
      cases he : nx (te t p) with
      | inl f => trivial
      | inr r =>
        rw [he] at hx1
        refine lpf_ok hop hx n r.1 _ ?_
        have a1 : p0 < p := h.1
        have a3 : o.length ≤ p - p0 := h.2.2.1
        have b1 := hx1.1
        have b3 := hx1.2.2.1
        refine ⟨by show p0 < r.1; omega, hx1.2.1, ?_, fun d m hm => ?_, fun x hx2 => ?_⟩
        · show (o ++ r.2 ++ [(k, 0)]).length ≤ r.1 - p0
          rw [List.length_append, List.length_append, List.length_singleton]
          omega
        · show okd m (o ++ r.2 ++ [(k, 0)]) d = _
          rw [okd_app, okd_app, show okd m o d = some (d + 1) from h.2.2.2.1 d m hm]
          show ((okd m r.2 (d + 1)).bind _) = _
          rw [hx1.2.2.2.1 (d + 1) m (by omega)]
          show (if k ≤ 1 then _ else if k = 2 then _ else (if 2 ≤ d + 1 + 1 then some (d + 1 + 1 - 1) else none)) = _
          rw [if_neg (by omega), if_neg (by omega), if_pos (by omega)]
          rfl
        · rcases List.mem_append.mp hx2 with hx2 | hx2
          · rcases List.mem_append.mp hx2 with hx2 | hx2
            · exact h.2.2.2.2 x hx2
            · exact hx1.2.2.2.2 x hx2
          · rw [List.mem_singleton.mp hx2]
            exact ⟨fun e => absurd e (by show ¬ k = 0; omega), fun e => absurd e (by show ¬ k = 1; omega), hk.2.2⟩
theorem PG_lp {op : Nat → Option Nat} {nx : Nat → Rs} {D p : Nat} (hp : p ≤ t.1) (hop : ∀ p k, op p = some k → ¬ tk t p = 0 ∧ 3 ≤ k ∧ k ≤ 10) (hx : ∀ q, q ≤ t.1 → PG t D q (nx q)) : PG t (D + 1) p (pLp t op nx p) := by
  unfold pLp
  have h := hx p hp
  cases he : nx p with
  | inl f => trivial
  | inr r =>
    rw [he] at h
    exact lpf_ok hop hx 700 r.1 r.2 (PG_mono h (by omega))
theorem opM_k {p k : Nat} (h : opM t p = some k) : ¬ tk t p = 0 ∧ 3 ≤ k ∧ k ≤ 10 := by
  unfold opM at h
  split at h
  · rename_i e
    cases h
    exact ⟨isS_k e, by omega, by omega⟩
  · split at h
    · rename_i e
      cases h
      exact ⟨isS_k e, by omega, by omega⟩
    · cases h
theorem opA_k {p k : Nat} (h : opA t p = some k) : ¬ tk t p = 0 ∧ 3 ≤ k ∧ k ≤ 10 := by
  unfold opA at h
  split at h
  · rename_i e
    cases h
    exact ⟨isS_k e, by omega, by omega⟩
  · split at h
    · rename_i e
      cases h
      exact ⟨isS_k e, by omega, by omega⟩
    · cases h
theorem opT_k {p k : Nat} (h : opT t p = some k) : ¬ tk t p = 0 ∧ 3 ≤ k ∧ k ≤ 10 := by
  unfold opT at h
  split at h
  · rename_i e
    cases h
    exact ⟨isS_k e, by omega, by omega⟩
  · split at h
    · rename_i e
      cases h
      exact ⟨isS_k e, by omega, by omega⟩
    · cases h
theorem opN_k {p k : Nat} (h : opN t p = some k) : ¬ tk t p = 0 ∧ 3 ≤ k ∧ k ≤ 10 := by
  unfold opN at h
  split at h
  · rename_i e
    cases h
    exact ⟨isW_k e, by omega, by omega⟩
  · cases h
theorem opO_k {p k : Nat} (h : opO t p = some k) : ¬ tk t p = 0 ∧ 3 ≤ k ∧ k ≤ 10 := by
  unfold opO at h
  split at h
  · rename_i e
    cases h
    exact ⟨isW_k e, by omega, by omega⟩
  · cases h
theorem PG_test {nx : Nat → Rs} {D p : Nat} (hp : p ≤ t.1) (hx : ∀ q, q ≤ t.1 → PG t D q (nx q)) : PG t (D + 1) p (pTest t nx p) := by
  unfold pTest
  have h := hx p hp
  cases he : nx p with
  | inl f => trivial
  | inr r =>
    rw [he] at h
    show PG t (D + 1) p (match opT t r.1 with
      | none => .inr r
      | some k => match nx (te t r.1) with
        | .inl f => .inl f
        | .inr q => .inr (q.1, r.2 ++ q.2 ++ [(k, 0)]))
    cases ho : opT t r.1 with
    | none => exact PG_mono h (by omega)
    | some k =>
      have := lpf_ok (t := t) (op := opT t) (nx := nx) (p0 := p) (fun p k => opT_k) hx 1 r.1 r.2 (PG_mono h (by omega))
      unfold lpf at this
      rw [ho] at this
      simp only at this ⊢
      cases he2 : nx (te t r.1) with
      | inl f => trivial
      | inr q =>
        rw [he2] at this
        exact this
theorem nts_ok : ∀ n p, p ≤ t.1 → p + (nts t n p).1 ≤ (nts t n p).2 ∧ (nts t n p).2 ≤ t.1 ∧ (nts t n p).1 ≤ n
  | 0, p, hp => ⟨Nat.le_refl _, hp, Nat.le_refl _⟩
  | n + 1, p, hp => by
    unfold nts
    split
    · rename_i e
      have g1 := te_gt (t := t) (p := p) (isW_k e)
      have g2 := tf_ge (t := t) (p := p)
      have ih := nts_ok n (te t p) (te_le hp)
      exact ⟨by show p + ((nts t n (te t p)).1 + 1) ≤ (nts t n (te t p)).2; omega, ih.2.1, by show (nts t n (te t p)).1 + 1 ≤ n + 1; omega⟩
    · exact ⟨Nat.le_refl _, hp, Nat.zero_le _⟩
theorem okd_rep {m h : Nat} (hh : 1 ≤ h) : ∀ n, okd m (List.replicate n (2, 0)) h = some h
  | 0 => rfl
  | n + 1 => by
    show (if 2 ≤ 1 then _ else if 2 = 2 then (if 1 ≤ h then okd m (List.replicate n (2, 0)) h else none) else _) = some h
    rw [if_neg (by omega), if_pos rfl, if_pos hh]
    exact okd_rep hh n
theorem PG_not {nx : Nat → Rs} {D p : Nat} (hp : p ≤ t.1) (hx : ∀ q, q ≤ t.1 → PG t D q (nx q)) : PG t D p (pNot t nx p) := by
  unfold pNot
  have nt := nts_ok (t := t) 6 p hp
  split
  · trivial
  · have h := hx (nts t 6 p).2 nt.2.1
    cases he : nx (nts t 6 p).2 with
    | inl f => trivial
    | inr q =>
      rw [he] at h
      have h1 := h.1
      have h3 := h.2.2.1
      refine ⟨by show p < q.1; omega, h.2.1, ?_, fun d m hm => ?_, fun x hx2 => ?_⟩
      · show (q.2 ++ List.replicate (nts t 6 p).1 (2, 0)).length ≤ q.1 - p
        rw [List.length_append, List.length_replicate]
        omega
      · show okd m (q.2 ++ List.replicate (nts t 6 p).1 (2, 0)) d = _
        rw [okd_app, h.2.2.2.1 d m hm]
        exact okd_rep (by omega) _
      · rcases List.mem_append.mp hx2 with hx2 | hx2
        · exact h.2.2.2.2 x hx2
        · rw [(List.mem_replicate.mp hx2).2]
          exact ⟨fun e => (by cases e), fun e => (by cases e), by decide⟩
theorem PG_ex {pe : Bool} : ∀ n p, p ≤ t.1 → PG t (5 * n + 1) p (pEx t pe n p)
  | 0, p, _ => trivial
  | n + 1, p, hp => by
    have ih := PG_ex (pe := pe) n
    unfold pEx
    have h6 : ∀ q, q ≤ t.1 → PG t (5 * n + 1) q (pPart t pe (pEx t pe n) q) := fun q hq => PG_part hq (by omega) ih
    have h5 := fun q (hq : q ≤ t.1) => PG_lp (op := opM t) hq (fun p k => opM_k) h6
    have h4 := fun q (hq : q ≤ t.1) => PG_lp (op := opA t) hq (fun p k => opA_k) h5
    have h3 := fun q (hq : q ≤ t.1) => PG_test hq h4
    have h2 := fun q (hq : q ≤ t.1) => PG_not hq h3
    have h1 := fun q (hq : q ≤ t.1) => PG_lp (op := opN t) hq (fun p k => opN_k) h2
    exact PG_lp (op := opO t) hp (fun p k => opO_k) h1
end PGS
