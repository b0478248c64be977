/-! THE PICTURE: lands, scenes, rules, days, without any machine -/
abbrev Tok : Type := Nat × Nat
/-- a rule: how many tokens, which (0 a number, 1 a value, 2 not, 3 .. 10 or, and, <, =, +, -, *, /) -/
abbrev Rul : Type := Nat × (Nat → Tok)
/-- a land: sides and numbers (0 W, 1 H, 2 people, 3 puffballs), homes, sizes, rises, bursts -/
abbrev Lnd : Type := (Nat → Nat) × (Nat → Nat) × (Nat → Nat) × Rul × Rul
def lw (l : Lnd) : Nat := l.1 0
def lh (l : Lnd) : Nat := l.1 1
def lp (l : Lnd) : Nat := l.1 2
def lb (l : Lnd) : Nat := l.1 3
def lhm (l : Lnd) : Nat → Nat := l.2.1
def lsz (l : Lnd) : Nat → Nat := l.2.2.1
def lri (l : Lnd) : Rul := l.2.2.2.1
def lbu (l : Lnd) : Rul := l.2.2.2.2
/-- depth of the pile ahead of a token -/
def rdp (t : Nat → Tok) : Nat → Nat
  | 0 => 0
  | i + 1 => if (t i).1 ≤ 1 then rdp t i + 1 else if (t i).1 = 2 then rdp t i else rdp t i - 1
def ROk (r : Rul) : Prop := (∀ i, i < r.1 → ((r.2 i).1 ≤ 1 → rdp r.2 i < 40) ∧ ((r.2 i).1 = 0 → (r.2 i).2 ≤ 9999) ∧ ((r.2 i).1 = 1 → (r.2 i).2 < 5) ∧ ((r.2 i).1 = 2 → 1 ≤ rdp r.2 i) ∧ (3 ≤ (r.2 i).1 → 2 ≤ rdp r.2 i) ∧ (r.2 i).1 ≤ 10) ∧ (0 < r.1 → rdp r.2 r.1 = 1) ∧ r.1 ≤ 700
def LOk (l : Lnd) : Prop := 1 ≤ lw l ∧ lw l ≤ 6 ∧ 1 ≤ lh l ∧ lh l ≤ 6 ∧ lp l ≤ 7 ∧ lb l ≤ 10 ∧ (∀ i, i < lp l → lhm l i < lw l * lh l) ∧ (∀ x, x < lb l → 1 ≤ lsz l x ∧ lsz l x ≤ 99) ∧ ROk (lri l) ∧ ROk (lbu l)
def jn (c : Nat) (a b : Int32) : Int32 :=
  if c = 3 then zb (¬ a = 0 ∨ ¬ b = 0) else if c = 4 then zb (¬ a = 0 ∧ ¬ b = 0) else if c = 5 then zb (a < b) else if c = 6 then zb (a = b) else if c = 7 then a + b else if c = 8 then a - b else if c = 9 then a * b else if b = 0 then 0 else a / b
/-- a token on the pile -/
def tst (v : Nat → Int32) (t : Tok) (q : (Nat → Int32) × Nat) : (Nat → Int32) × Nat :=
  if t.1 = 0 then (upd q.1 q.2 (nI t.2), q.2 + 1) else if t.1 = 1 then (upd q.1 q.2 (v t.2), q.2 + 1) else if t.1 = 2 then (upd q.1 (q.2 - 1) (zb (q.1 (q.2 - 1) = 0)), q.2) else (upd q.1 (q.2 - 2) (jn t.1 (q.1 (q.2 - 2)) (q.1 (q.2 - 1))), q.2 - 1)
def trn (v : Nat → Int32) (r : Rul) (n : Nat) (f : Nat → Int32) : (Nat → Int32) × Nat := zfo (fun i q => tst v (r.2 i) q) n (f, 0)
/-- what a rule gives -/
def rval (v : Nat → Int32) (r : Rul) : Int32 := (trn v r r.1 (fun _ => 0)).1 0
theorem tst_ag {v : Nat → Int32} {t : Tok} {q q' : (Nat → Int32) × Nat} (h2 : q.2 = q'.2) (h : ∀ j, j < q.2 → q.1 j = q'.1 j) (hu : (t.1 = 2 → 1 ≤ q.2) ∧ (3 ≤ t.1 → 2 ≤ q.2)) : (tst v t q).2 = (tst v t q').2 ∧ ∀ j, j < (tst v t q).2 → (tst v t q).1 j = (tst v t q').1 j := by
  unfold tst
  by_cases h0 : t.1 = 0
  · rw [if_pos h0, if_pos h0]
    refine ⟨by show q.2 + 1 = q'.2 + 1; rw [h2], fun j hj => ?_⟩
    show upd q.1 q.2 (nI t.2) j = upd q'.1 q'.2 (nI t.2) j
    have hj : j < q.2 + 1 := hj
    unfold upd
    rw [← h2]
    by_cases e : j = q.2
    · rw [if_pos e, if_pos e]
    · rw [if_neg e, if_neg e, h j (by omega)]
  · rw [if_neg h0, if_neg h0]
    by_cases h1 : t.1 = 1
    · rw [if_pos h1, if_pos h1]
      refine ⟨by show q.2 + 1 = q'.2 + 1; rw [h2], fun j hj => ?_⟩
      show upd q.1 q.2 (v t.2) j = upd q'.1 q'.2 (v t.2) j
      have hj : j < q.2 + 1 := hj
      unfold upd
      rw [← h2]
      by_cases e : j = q.2
      · rw [if_pos e, if_pos e]
      · rw [if_neg e, if_neg e, h j (by omega)]
    · rw [if_neg h1, if_neg h1]
      by_cases h3 : t.1 = 2
      · rw [if_pos h3, if_pos h3]
        have := hu.1 h3
        refine ⟨h2, fun j hj => ?_⟩
        have hj : j < q.2 := hj
        show upd q.1 (q.2 - 1) _ j = upd q'.1 (q'.2 - 1) _ j
        rw [← h2, h (q.2 - 1) (by omega)]
        unfold upd
        by_cases e : j = q.2 - 1
        · rw [if_pos e, if_pos e]
        · rw [if_neg e, if_neg e, h j hj]
      · rw [if_neg h3, if_neg h3]
        have := hu.2 (by omega)
        refine ⟨by show q.2 - 1 = q'.2 - 1; rw [h2], fun j hj => ?_⟩
        have hj : j < q.2 - 1 := hj
        show upd q.1 (q.2 - 2) _ j = upd q'.1 (q'.2 - 2) _ j
        rw [← h2, h (q.2 - 1) (by omega), h (q.2 - 2) (by omega)]
        unfold upd
        by_cases e : j = q.2 - 2
        · rw [if_pos e, if_pos e]
        · rw [if_neg e, if_neg e, h j (by omega)]
theorem tst_2 (v : Nat → Int32) (t : Nat → Tok) (i : Nat) (q : (Nat → Int32) × Nat) (h : q.2 = rdp t i) : (tst v (t i) q).2 = rdp t (i + 1) := by
  show _ = (if (t i).1 ≤ 1 then rdp t i + 1 else if (t i).1 = 2 then rdp t i else rdp t i - 1)
  unfold tst
  by_cases h0 : (t i).1 = 0
  · rw [if_pos h0, if_pos (by omega), ← h]
  · by_cases h1 : (t i).1 = 1
    · rw [if_neg h0, if_pos h1, if_pos (by omega), ← h]
    · by_cases h2 : (t i).1 = 2
      · rw [if_neg h0, if_neg h1, if_pos h2, if_neg (by omega), if_pos h2, ← h]
      · rw [if_neg h0, if_neg h1, if_neg h2, if_neg (by omega), if_neg h2, ← h]
theorem trn_2 (v : Nat → Int32) (r : Rul) (f : Nat → Int32) : ∀ n, (trn v r n f).2 = rdp r.2 n
  | 0 => rfl
  | n + 1 => tst_2 v r.2 n _ (trn_2 v r f n)
theorem trn_ag {v : Nat → Int32} {r : Rul} (hr : ROk r) (f g : Nat → Int32) : ∀ n, n ≤ r.1 → ∀ j, j < rdp r.2 n → (trn v r n f).1 j = (trn v r n g).1 j
  | 0, _ => fun j hj => by
    have : j < 0 := hj
    omega
  | n + 1, hn => by
    have ih := trn_ag (v := v) hr f g n (by omega)
    have h2 := trn_2 v r f n
    have h3 := trn_2 v r g n
    have := hr.1 n (by omega)
    obtain ⟨e1, e2⟩ := tst_ag (v := v) (t := r.2 n) (q := trn v r n f) (q' := trn v r n g) (h2.trans h3.symm) (fun j hj => ih j (by omega)) ⟨fun h => by rw [h2]; exact this.2.2.2.1 h, fun h => by rw [h2]; exact this.2.2.2.2.1 h⟩
    intro j hj
    exact e2 j (by rw [tst_2 v r.2 n _ h2]; exact hj)
theorem rval_of {v : Nat → Int32} {r : Rul} (hr : ROk r) (h0 : 0 < r.1) (f : Nat → Int32) : (trn v r r.1 f).1 0 = rval v r := trn_ag hr f _ r.1 (Nat.le_refl _) 0 (by rw [hr.2.1 h0]; decide)
/-- a scene by kinds: 0 the day, 1 temper, 2 shouts, 3 heard, 4 mild, 5 cell, 6 holds, 7 age, 8 whose, 9 guarded -/
abbrev Scn : Type := Nat → Nat → Int32
def adf (a b : Nat) : Nat := if a < b then b - a else a - b
def far (w a b : Nat) : Nat := adf (a % w) (b % w) + adf (a / w) (b / w)
def cel (A : Scn) (x : Nat) : Nat := (A 5 x).toNatClampNeg
/-- whether a cell is in the reach of a puffball -/
def rch (l : Lnd) (A : Scn) (x c : Nat) : Bool := decide (nI (far (lw l) (cel A x) c) ≤ A 6 x / 10)
/-- a kind's number at one place is another -/
def ua (A : Scn) (k i : Nat) (v : Int32) : Scn := fun a => if a = k then upd (A k) i v else A a
theorem ua_same (A : Scn) (k i : Nat) (v : Int32) : ua A k i v k = upd (A k) i v := if_pos rfl
theorem ua_ne (A : Scn) {k a : Nat} (i : Nat) (v : Int32) (h : a ≠ k) : ua A k i v a = A a := if_neg h
theorem ua_at (A : Scn) (k i : Nat) (v : Int32) : ua A k i v k i = v := by rw [ua_same, upd_same]
theorem ua_comm (A : Scn) {k k' : Nat} (i i' : Nat) (v v' : Int32) (h : k ≠ k') : ua (ua A k i v) k' i' v' = ua (ua A k' i' v') k i v := by
  funext a
  by_cases h1 : a = k'
  · subst h1
    rw [ua_same, ua_ne _ _ _ (Ne.symm h), ua_ne _ _ _ (Ne.symm h), ua_same]
  · rw [ua_ne _ _ _ h1]
    by_cases h2 : a = k
    · subst h2
      rw [ua_same, ua_same, ua_ne _ _ _ h]
    · rw [ua_ne _ _ _ h2, ua_ne _ _ _ h2, ua_ne _ _ _ h1]
def held (A : Scn) (x : Nat) : Bool := decide (¬ A 6 x = 0)
def heldM (l : Lnd) (A : Scn) : Nat := mkN (held A) (lb l)
def grdM (l : Lnd) (A : Scn) : Nat := mkN (fun x => decide (A 9 x = 1)) (lb l)
/-- those that can be set off -/
def freM (l : Lnd) (A : Scn) : Nat := sdf (heldM l A) (grdM l A)
/-- T holds these and is closed: with one in it those that can be set off and lie in its reach -/
def Cls (l : Lnd) (A : Scn) (can s : Nat) (T : Nat → Prop) : Prop := (∀ i, s.testBit i = true → T i) ∧ ∀ x y, T x → x < lb l → y < lb l → can.testBit y = true → rch l A x (cel A y) = true → T y
/-- the least closed set -/
noncomputable def clo (l : Lnd) (A : Scn) (can s : Nat) : Nat := mkN (fun y => @decide (∀ T : Nat → Prop, Cls l A can s T → T y) (Classical.propDecidable _)) (lb l)
theorem clo_of {l : Lnd} {A : Scn} {can s t : Nat} (hs : t < 2 ^ lb l) (h1 : Cls l A can s (fun i => t.testBit i = true)) (h2 : ∀ T : Nat → Prop, Cls l A can s T → ∀ i, t.testBit i = true → T i) : t = clo l A can s := by
  refine bits_ext (fun i => ?_)
  unfold clo
  rw [mkN_bit]
  by_cases hi : i < lb l
  · simp only [hi, decide_true, Bool.true_and]
    cases hb : t.testBit i with
    | true =>
      symm
      exact @decide_eq_true _ (Classical.propDecidable _) (fun T hT => h2 T hT i hb)
    | false =>
      symm
      refine @decide_eq_false _ (Classical.propDecidable _) (fun h => ?_)
      have := h _ h1
      rw [hb] at this
      cases this
  · rw [Nat.testBit_lt_two_pow (Nat.lt_of_lt_of_le hs (Nat.pow_le_pow_right (by decide) (by omega)))]
    simp [hi]
/-- how many of these are heard by one -/
def nhr (l : Lnd) (A : Scn) (T p n : Nat) : Nat := zfo (fun x n => if T.testBit x && rch l A x (lhm l p) then n + 1 else n) n 0
def m99 (v : Int32) : Int32 := if 99 < v then 99 else v
def m9999 (v : Int32) : Int32 := if 9999 < v then 9999 else v
def hear (A : Scn) (p : Nat) (n : Int32) : Scn := ua (ua A 3 p (m9999 (A 3 p + n))) 1 p (m99 (A 1 p + 5 * n))
def fill (A : Scn) (x : Nat) (t o : Int32) : Scn := ua (ua (ua A 6 x t) 7 x 0) 8 x o
/-- these have gone off -/
def goF (l : Lnd) (A : Scn) (T : Nat) : Scn := zfo (fun x A => if T.testBit x then fill A x 0 (-1) else A) (lb l) (zfo (fun p A => hear A p (nI (nhr l A T p (lb l)))) (lp l) A)
noncomputable def goOff (l : Lnd) (A : Scn) (s : Nat) : Scn := goF l A (clo l A (freM l A) s)
/-- to which one would go out -/
def nwS (l : Lnd) (A : Scn) (p x : Nat) (b : Option Nat) : Option Nat :=
  if A 6 x = 0 ∧ ¬ nI (lsz l x) < A 1 p then (match b with
    | none => some x
    | some y => if far (lw l) (cel A x) (lhm l p) < far (lw l) (cel A y) (lhm l p) then some x else some y) else b
def nw (l : Lnd) (A : Scn) (p : Nat) : Option Nat := zfo (nwS l A p) (lb l) none
/-- none as -1 -/
def oI : Option Nat → Int32
  | none => -1
  | some n => nI n
def goO (l : Lnd) (A : Scn) (p : Nat) : Option Scn := match nw l A p with
  | none => none
  | some x => some (ua (fill A x (A 1 p) (nI p)) 1 p 0)
def vRi (A : Scn) (p k : Nat) : Int32 := if k = 0 then A 4 p else if k = 1 then A 1 p else if k = 2 then A 2 p else if k = 3 then A 3 p else A 0 0
def bnd (v : Int32) : Int32 := if v < 0 then 0 else if 20 < v then 20 else v
def rise (l : Lnd) (A : Scn) (p : Nat) : Int32 := if (lri l).1 = 0 then 10 - A 4 p else bnd (rval (vRi A p) (lri l))
/-- one's day: the scene, who went out, who shouted -/
def pday (l : Lnd) (p : Nat) (q : Scn × Nat × Nat) : Scn × Nat × Nat :=
  let A := ua q.1 1 p (m99 (q.1 1 p + rise l q.1 p))
  if A 1 p < 20 then (A, q.2.1, q.2.2) else match goO l A p with
    | some A' => (A', q.2.1 ||| 2 ^ p, q.2.2)
    | none => (ua (ua A 2 p (A 2 p + 1)) 1 p (A 1 p / 2), q.2.1, q.2.2 ||| 2 ^ p)
def nearF (l : Lnd) (A : Scn) (x y : Nat) : Bool := decide (¬ y = x) && held A y && rch l A x (cel A y)
def nea (l : Lnd) (A : Scn) (x : Nat) : Nat := zfo (fun y n => if nearF l A x y then n + 1 else n) (lb l) 0
def vBu (l : Lnd) (A : Scn) (x k : Nat) : Int32 := if k = 0 then A 6 x else if k = 1 then nI (lsz l x) else if k = 2 then A 7 x else if k = 3 then nI (nea l A x) else A 0 0
def rip (l : Lnd) (A : Scn) (x : Nat) : Bool := if (lbu l).1 = 0 then decide (10 ≤ A 7 x) else decide (0 < rval (vBu l A x) (lbu l))
def ages (l : Lnd) (A : Scn) : Scn := zfo (fun x A => if held A x then ua A 7 x (A 7 x + 1) else A) (lb l) A
def ripM (l : Lnd) (A : Scn) : Nat := mkN (fun x => held A x && rip l A x) (lb l)
noncomputable def bst (l : Lnd) (A : Scn) (s : Nat) : Scn × Nat := if s = 0 then (A, 0) else (goOff l A s, clo l A (freM l A) s)
/-- a day: the scene, who went out, who shouted, what went off -/
noncomputable def dayF (l : Lnd) (A : Scn) : Scn × Nat × Nat × Nat :=
  let q := zfo (pday l) (lp l) (A, 0, 0)
  let A2 := ages l q.1
  let r := bst l A2 (ripM l A2)
  (ua r.1 0 0 (r.1 0 0 + 1), q.2.1, q.2.2, r.2)
/-- what is so of all scenes -/
def AOk (l : Lnd) (A : Scn) : Prop := (∀ x, x < lb l → (∃ c, c < lw l * lh l ∧ A 5 x = nI c) ∧ (∃ n, n ≤ 99 ∧ A 6 x = nI n) ∧ (A 9 x = 0 ∨ A 9 x = 1)) ∧ ∀ p, p < lp l → (∃ n, n ≤ 99 ∧ A 1 p = nI n) ∧ (∃ n, n ≤ 9 ∧ A 4 p = nI n)
/-! how scenes lie in rows -/
def offC (k : Nat) : Nat := [0, 9, 16, 23, 2, 60, 30, 40, 50].getD k 0
def offM (k : Nat) : Nat := [0, 1, 8, 15, 22, 29, 39, 49, 59, 69].getD k 0
def rng (l : Lnd) (k : Nat) : Nat := if k = 0 then 1 else if k < 5 then lp l else lb l
def cap (k : Nat) : Nat := if k = 0 then 1 else if k < 5 then 7 else 10
theorem rng_cap {l : Lnd} (h : LOk l) (k : Nat) : rng l k ≤ cap k := by
  unfold rng cap
  have := h.2.2.2.2.1
  have := h.2.2.2.2.2.1
  by_cases h0 : k = 0
  · rw [if_pos h0, if_pos h0]
    exact Nat.le_refl _
  · rw [if_neg h0, if_neg h0]
    by_cases h1 : k < 5
    · rw [if_pos h1, if_pos h1]
      omega
    · rw [if_neg h1, if_neg h1]
      omega
/-- in the class a row of 70: guards are bits -/
def ScC (l : Lnd) (f : Nat → Int32) (A : Scn) : Prop := (∀ k i, k < 9 → i < rng l k → f (offC k + i) = A k i) ∧ f 1 = nI (grdM l A)
/-- in the reference a row of 79, from o on -/
def ScM (l : Lnd) (f : Nat → Int32) (o : Nat) (A : Scn) : Prop := ∀ k i, k < 10 → i < rng l k → f (o + offM k + i) = A k i
def offI (f : Nat → Nat) (n : Nat) : Bool := (List.range n).all fun k => (List.range n).all fun k' => (List.range 10).all fun i => (List.range 10).all fun i' => !(decide (i < cap k) && decide (i' < cap k') && decide (f k + i = f k' + i')) || (decide (k = k') && decide (i = i'))
theorem offI_of {f : Nat → Nat} {n : Nat} (h : offI f n = true) (k : Nat) (hk : k < n) (k' : Nat) (hk' : k' < n) (i : Nat) (hi : i < 10) (i' : Nat) (hi' : i' < 10) (a : i < cap k) (b : i' < cap k') (c : f k + i = f k' + i') : k = k' ∧ i = i' := by
  have := List.all_eq_true.mp (List.all_eq_true.mp (List.all_eq_true.mp (List.all_eq_true.mp h k (List.mem_range.mpr hk)) k' (List.mem_range.mpr hk')) i (List.mem_range.mpr hi)) i' (List.mem_range.mpr hi')
  simp only [a, b, c, decide_true, Bool.and_self, Bool.not_true, Bool.false_or, Bool.and_eq_true, decide_eq_true_eq] at this
  exact this
theorem offC_all : offI offC 9 = true := by decide +kernel
theorem offM_all : offI offM 10 = true := by decide +kernel
theorem offC_inj (k : Nat) (hk : k < 9) (k' : Nat) (hk' : k' < 9) (i : Nat) (hi : i < 10) (i' : Nat) (hi' : i' < 10) (a : i < cap k) (b : i' < cap k') (c : offC k + i = offC k' + i') : k = k' ∧ i = i' := offI_of offC_all k hk k' hk' i hi i' hi' a b c
theorem offM_inj (k : Nat) (hk : k < 10) (k' : Nat) (hk' : k' < 10) (i : Nat) (hi : i < 10) (i' : Nat) (hi' : i' < 10) (a : i < cap k) (b : i' < cap k') (c : offM k + i = offM k' + i') : k = k' ∧ i = i' := offI_of offM_all k hk k' hk' i hi i' hi' a b c
theorem offC_1 : ∀ k, k < 9 → ∀ i, i < 10 → i < cap k → offC k + i ≠ 1 ∧ offC k + i < 70 := by decide +kernel
theorem offM_79 : ∀ k, k < 10 → ∀ i, i < 10 → i < cap k → offM k + i < 79 := by decide +kernel
theorem cap_10 (k : Nat) : cap k ≤ 10 := by
  unfold cap
  by_cases h0 : k = 0
  · rw [if_pos h0]
    decide
  · rw [if_neg h0]
    by_cases h1 : k < 5
    · rw [if_pos h1]
      decide
    · rw [if_neg h1]
      exact Nat.le_refl _
theorem ScC_up {l : Lnd} (hl : LOk l) {f : Nat → Int32} {A : Scn} (h : ScC l f A) {k i : Nat} (hk : k < 9) (hi : i < rng l k) (v : Int32) : ScC l (upd f (offC k + i) v) (ua A k i v) := by
  have hc := rng_cap hl
  have h10 := cap_10
  refine ⟨fun k' i' hk' hi' => ?_, ?_⟩
  · by_cases e : k' = k
    · subst e
      rw [ua_same]
      by_cases e2 : i' = i
      · subst e2
        rw [upd_same, upd_same]
      · rw [upd_ne _ _ (by omega), upd_ne _ _ e2, h.1 k' i' hk' hi']
    · rw [ua_ne _ _ _ e, upd_ne _ _ ?_, h.1 k' i' hk' hi']
      intro e3
      have := hc k
      have := hc k'
      have := h10 k
      have := h10 k'
      exact e (offC_inj k' hk' k hk i' (by omega) i (by omega) (by omega) (by omega) e3).1
  · have := hc k
    have := h10 k
    rw [upd_ne _ _ (Ne.symm (offC_1 k hk i (by omega) (by omega)).1), h.2]
    unfold grdM
    rw [ua_ne _ _ _ (by omega)]
theorem ScM_up {l : Lnd} (hl : LOk l) {f : Nat → Int32} {o : Nat} {A : Scn} (h : ScM l f o A) {k i : Nat} (hk : k < 10) (hi : i < rng l k) (v : Int32) : ScM l (upd f (o + offM k + i) v) o (ua A k i v) := by
  have hc := rng_cap hl
  have h10 := cap_10
  intro k' i' hk' hi'
  by_cases e : k' = k
  · subst e
    rw [ua_same]
    by_cases e2 : i' = i
    · subst e2
      rw [upd_same, upd_same]
    · rw [upd_ne _ _ (by omega), upd_ne _ _ e2, h k' i' hk' hi']
  · rw [ua_ne _ _ _ e, upd_ne _ _ ?_, h k' i' hk' hi']
    intro e3
    have := hc k
    have := hc k'
    have := h10 k
    have := h10 k'
    exact e (offM_inj k' hk' k hk i' (by omega) i (by omega) (by omega) (by omega) (by omega)).1
