/-! WAYS: how far each is from one, over those that are open -/
/-- f tells how far: one that is at k+1 has one at k beside it that is open; what lies beside an open one is at most one further -/
def Dst (n : Nat) (al op : Nat → Prop) (ad : Nat → Nat → Prop) (t : Nat) (f : Nat → Option Nat) : Prop := (∀ c k, c < n → f c = some k → (c = t ∧ k = 0) ∨ ∃ q k', q < n ∧ op q ∧ ad q c ∧ al c ∧ f q = some k' ∧ k = k' + 1) ∧ ∀ q k, q < n → op q → f q = some k → ∀ c, c < n → ad q c → al c → ∃ j, f c = some j ∧ j ≤ k + 1
section WY
variable {n t o : Nat} {op : Nat → Prop} {ad : Nat → Nat → Prop} {f g : Nat → Option Nat}
/-- f: all are laid, the open ones go on; g: the open ones and one more are laid, and go on -/
theorem dst_fg (hf : Dst n (fun _ => True) op ad t f) (hg : Dst n (fun c => op c ∨ c = o) (fun c => op c ∨ c = o) ad t g) (g0 : g t = some 0) : ∀ k c, c < n → (op c ∨ c = o) → f c = some k → ∃ j, g c = some j ∧ j ≤ k := by
  intro k
  induction k with
  | zero =>
    intro c hc ho e
    rcases hf.1 c 0 hc e with ⟨h1, _⟩ | ⟨q, k', _, _, _, _, _, h6⟩
    · rw [h1]
      exact ⟨0, g0, Nat.le_refl 0⟩
    · omega
  | succ k ih =>
    intro c hc ho e
    rcases hf.1 c (k + 1) hc e with ⟨_, h2⟩ | ⟨q, k', h1, h2, h3, _, h5, h6⟩
    · omega
    · obtain ⟨j, j1, j2⟩ := ih q h1 (Or.inl h2) (by rw [h5, show k' = k by omega])
      obtain ⟨i, i1, i2⟩ := hg.2 q j h1 (Or.inl h2) j1 c hc h3 ho
      exact ⟨i, i1, by omega⟩
theorem dst_gf (hf : Dst n (fun _ => True) op ad t f) (hg : Dst n (fun c => op c ∨ c = o) (fun c => op c ∨ c = o) ad t g) (f0 : f t = some 0) : ∀ k c, c < n → g c = some k → (∃ j, f c = some j ∧ j ≤ k) ∨ ∃ s, g o = some s ∧ s < k := by
  intro k
  induction k with
  | zero =>
    intro c hc e
    rcases hg.1 c 0 hc e with ⟨h1, _⟩ | ⟨q, k', _, _, _, _, _, h6⟩
    · rw [h1]
      exact Or.inl ⟨0, f0, Nat.le_refl 0⟩
    · omega
  | succ k ih =>
    intro c hc e
    rcases hg.1 c (k + 1) hc e with ⟨_, h2⟩ | ⟨q, k', h1, h2, h3, _, h5, h6⟩
    · omega
    · have h5 : g q = some k := by rw [h5, show k' = k by omega]
      by_cases eq : q = o
      · rw [eq] at h5
        exact Or.inr ⟨k, h5, by omega⟩
      · have hq : op q := h2.elim id (fun h => absurd h eq)
        rcases ih q h1 h5 with ⟨j, j1, j2⟩ | ⟨s, s1, s2⟩
        · obtain ⟨i, i1, i2⟩ := hf.2 q j h1 hq j1 c hc h3 trivial
          exact Or.inl ⟨i, i1, by omega⟩
        · exact Or.inr ⟨s, s1, by omega⟩
theorem dst_at (ho : o < n) (hf : Dst n (fun _ => True) op ad t f) (hg : Dst n (fun c => op c ∨ c = o) (fun c => op c ∨ c = o) ad t g) (f0 : f t = some 0) (g0 : g t = some 0) : f o = g o := by
  cases ef : f o with
  | none =>
    cases eg : g o with
    | none => rfl
    | some k =>
      rcases dst_gf hf hg f0 k o ho eg with ⟨j, j1, _⟩ | ⟨s, s1, s2⟩
      · rw [ef] at j1
        cases j1
      · rw [eg] at s1
        have := Option.some.inj s1
        omega
  | some k =>
    obtain ⟨j, j1, j2⟩ := dst_fg hf hg g0 k o ho (Or.inr rfl) ef
    rcases dst_gf hf hg f0 j o ho j1 with ⟨i, i1, i2⟩ | ⟨s, s1, s2⟩
    · rw [ef] at i1
      have := Option.some.inj i1
      rw [j1, show j = k by omega]
    · rw [j1] at s1
      have := Option.some.inj s1
      omega
theorem dst_near {c k s : Nat} (hc : c < n) (hoc : op c) (hs : g o = some s) (hk : k ≤ s) (hf : Dst n (fun _ => True) op ad t f) (hg : Dst n (fun c => op c ∨ c = o) (fun c => op c ∨ c = o) ad t g) (f0 : f t = some 0) (g0 : g t = some 0) : f c = some k ↔ g c = some k := by
  constructor
  · intro e
    obtain ⟨j, j1, j2⟩ := dst_fg hf hg g0 k c hc (Or.inl hoc) e
    rcases dst_gf hf hg f0 j c hc j1 with ⟨i, i1, i2⟩ | ⟨s', s1, s2⟩
    · rw [e] at i1
      have := Option.some.inj i1
      rw [j1, show j = k by omega]
    · rw [hs] at s1
      have := Option.some.inj s1
      omega
  · intro e
    rcases dst_gf hf hg f0 k c hc e with ⟨j, j1, j2⟩ | ⟨s', s1, s2⟩
    · obtain ⟨i, i1, i2⟩ := dst_fg hf hg g0 j c hc (Or.inl hoc) j1
      rw [e] at i1
      have := Option.some.inj i1
      rw [j1, show j = k by omega]
    · rw [hs] at s1
      have := Option.some.inj s1
      omega
end WY
/-! how a queue lays it: f so far, the queue, how long, how many are done -/
def csn (f : Nat → Option Nat) : Nat → Nat
  | 0 => 0
  | k + 1 => if (f k).isSome = true then csn f k + 1 else csn f k
def fse (f : Nat → Option Nat) (c v : Nat) : Nat → Option Nat := fun x => if x = c then some v else f x
theorem csn_le (f : Nat → Option Nat) : ∀ n, csn f n ≤ n
  | 0 => Nat.le_refl 0
  | n + 1 => by
    have := csn_le f n
    rw [csn]
    split <;> omega
theorem csn_lt {f : Nat → Option Nat} {c : Nat} (e : f c = none) : ∀ n, c < n → csn f n < n
  | 0 => fun h => absurd h (Nat.not_lt_zero c)
  | n + 1 => fun h => by
    have h1 := csn_le f n
    rw [csn]
    by_cases ec : n = c
    · rw [ec, e, if_neg (by decide)]
      rw [ec] at h1
      omega
    · have := csn_lt e n (by omega)
      split <;> omega
theorem csn_ge {f : Nat → Option Nat} {c v : Nat} : ∀ n, n ≤ c → csn (fse f c v) n = csn f n
  | 0 => fun _ => rfl
  | n + 1 => fun h => by
    have ih := csn_ge (f := f) (c := c) (v := v) n (by omega)
    rw [csn, csn, ih, show fse f c v n = f n from if_neg (by omega)]
theorem csn_up {f : Nat → Option Nat} {c v : Nat} (e : f c = none) : ∀ n, c < n → csn (fse f c v) n = csn f n + 1
  | 0 => fun h => absurd h (Nat.not_lt_zero c)
  | n + 1 => fun h => by
    rw [csn, csn]
    by_cases ec : n = c
    · rw [ec, e, csn_ge c (Nat.le_refl c), show fse f c v c = some v from if_pos rfl]
      rfl
    · rw [csn_up e n (by omega), show fse f c v n = f n from if_neg ec]
      split <;> rfl
def Que (n : Nat) (al op : Nat → Prop) (ad : Nat → Nat → Prop) (t : Nat) (f : Nat → Option Nat) (q : Nat → Nat) (m h : Nat) : Prop :=
  f t = some 0 ∧
  (∀ c k, c < n → f c = some k → (c = t ∧ k = 0) ∨ ∃ x k', x < n ∧ op x ∧ ad x c ∧ al c ∧ f x = some k' ∧ k = k' + 1) ∧
  (∀ i, i < m → q i < n ∧ op (q i) ∧ ∃ k, f (q i) = some k) ∧
  (∀ i j a b, i ≤ j → j < m → f (q i) = some a → f (q j) = some b → a ≤ b) ∧
  (∀ j a b, h < m → j < m → f (q h) = some a → f (q j) = some b → b ≤ a + 1) ∧
  (∀ i k, i < h → i < m → f (q i) = some k → ∀ c, c < n → ad (q i) c → al c → ∃ j, f c = some j ∧ j ≤ k + 1) ∧
  (∀ c k, c < n → op c → f c = some k → ∃ i, i < m ∧ q i = c) ∧
  m ≤ csn f n
section QU
variable {n t m h : Nat} {al op : Nat → Prop} {ad : Nat → Nat → Prop} {f : Nat → Option Nat} {q : Nat → Nat}
theorem Que.dst (Z : Que n al op ad t f q m h) (hm : m ≤ h) : Dst n al op ad t f := by
  obtain ⟨z1, z2, z3, z4, z5, z6, z7, z8⟩ := Z
  refine ⟨z2, fun x k hx ho e c hc ha hl => ?_⟩
  obtain ⟨i, i1, i2⟩ := z7 x k hx ho e
  rw [← i2] at e ha
  exact z6 i k (by omega) i1 e c hc ha hl
/-- the head is done -/
theorem Que.nxt (Z : Que n al op ad t f q m h) (hh : h < m) (hp : ∀ k, f (q h) = some k → ∀ c, c < n → ad (q h) c → al c → ∃ j, f c = some j ∧ j ≤ k + 1) : Que n al op ad t f q m (h + 1) := by
  obtain ⟨z1, z2, z3, z4, z5, z6, z7, z8⟩ := Z
  refine ⟨z1, z2, z3, z4, fun j a b h1 h2 ea eb => ?_, fun i k hi hm e => ?_, z7, z8⟩
  · obtain ⟨_, _, k, ek⟩ := z3 h hh
    have g1 := z5 j k b hh h2 ek eb
    have g2 := z4 h (h + 1) k a (by omega) h1 ek ea
    omega
  · by_cases ei : i = h
    · subst ei
      exact hp k e
    · exact z6 i k (by omega) hm e
theorem fse_ne {c v x : Nat} (h : ¬ x = c) : fse f c v x = f x := if_neg h
theorem fse_at {c v : Nat} : fse f c v c = some v := if_pos rfl
theorem fse_ext {c v x k : Nat} (hn : f c = none) (e : f x = some k) : fse f c v x = some k := by
  rw [fse_ne (fun hh => by rw [hh, hn] at e; cases e)]
  exact e
/-- one more is laid, and goes on -/
theorem Que.psh (Z : Que n al op ad t f q m h) {c v : Nat} (hh : h < m) (ev : f (q h) = some v) (hc : c < n) (ha : ad (q h) c) (hl : al c) (hn : f c = none) (ho : op c) : Que n al op ad t (fse f c (v + 1)) (fun i => if i = m then c else q i) (m + 1) h := by
  obtain ⟨z1, z2, z3, z4, z5, z6, z7, z8⟩ := Z
  have qo : ∀ i, i < m → (if i = m then c else q i) = q i := fun i hi => if_neg (by omega)
  have fo : ∀ i k, i < m → fse f c (v + 1) (q i) = some k → f (q i) = some k := fun i k hi e => by
    obtain ⟨_, _, k', e'⟩ := z3 i hi
    rw [fse_ext hn e'] at e
    rw [e', Option.some.inj e]
  refine ⟨fse_ext hn z1, fun x k hx e => ?_, fun i hi => ?_, fun i j a b hij hj ea eb => ?_, fun j a b h1 h2 ea eb => ?_, fun i k h1 h2 e x hx hax hlx => ?_, fun x k hx hox e => ?_, ?_⟩
  · by_cases ex : x = c
    · rw [ex, fse_at] at e
      rw [ex]
      exact Or.inr ⟨q h, v, (z3 h hh).1, (z3 h hh).2.1, ha, hl, fse_ext hn ev, (Option.some.inj e).symm⟩
    · rw [fse_ne ex] at e
      rcases z2 x k hx e with g | ⟨y, k', g1, g2, g3, g4, g5, g6⟩
      · exact Or.inl g
      · exact Or.inr ⟨y, k', g1, g2, g3, g4, fse_ext hn g5, g6⟩
  · show (if i = m then c else q i) < n ∧ op (if i = m then c else q i) ∧ ∃ k, fse f c (v + 1) (if i = m then c else q i) = some k
    by_cases ei : i = m
    · rw [if_pos ei]
      exact ⟨hc, ho, _, fse_at⟩
    · rw [if_neg ei]
      obtain ⟨g1, g2, k, g3⟩ := z3 i (by omega)
      exact ⟨g1, g2, k, fse_ext hn g3⟩
  · have ea : fse f c (v + 1) (if i = m then c else q i) = some a := ea
    have eb : fse f c (v + 1) (if j = m then c else q j) = some b := eb
    by_cases ej : j = m
    · rw [if_pos ej, fse_at] at eb
      have eb := Option.some.inj eb
      by_cases ei : i = m
      · rw [if_pos ei, fse_at] at ea
        have ea := Option.some.inj ea
        omega
      · rw [if_neg ei] at ea
        have := z5 i v a hh (by omega) ev (fo i a (by omega) ea)
        omega
    · rw [if_neg ej] at eb
      rw [if_neg (by omega)] at ea
      exact z4 i j a b hij (by omega) (fo i a (by omega) ea) (fo j b (by omega) eb)
  · have ea : fse f c (v + 1) (if h = m then c else q h) = some a := ea
    have eb : fse f c (v + 1) (if j = m then c else q j) = some b := eb
    rw [if_neg (by omega)] at ea
    have ea := fo h a hh ea
    have va : v = a := by
      rw [ev] at ea
      exact Option.some.inj ea
    by_cases ej : j = m
    · rw [if_pos ej, fse_at] at eb
      have eb := Option.some.inj eb
      omega
    · rw [if_neg ej] at eb
      exact z5 j a b hh (by omega) ea (fo j b (by omega) eb)
  · have e : fse f c (v + 1) (if i = m then c else q i) = some k := e
    have hax : ad (if i = m then c else q i) x := hax
    rw [if_neg (by omega)] at e hax
    obtain ⟨j, j1, j2⟩ := z6 i k h1 (by omega) (fo i k (by omega) e) x hx hax hlx
    exact ⟨j, fse_ext hn j1, j2⟩
  · show ∃ i, i < m + 1 ∧ (if i = m then c else q i) = x
    by_cases ex : x = c
    · exact ⟨m, by omega, by rw [if_pos rfl, ex]⟩
    · rw [fse_ne ex] at e
      obtain ⟨i, i1, i2⟩ := z7 x k hx hox e
      exact ⟨i, by omega, by rw [if_neg (by omega), i2]⟩
  · rw [csn_up hn n hc]
    omega
/-- one more is laid, and doesn't go on -/
theorem Que.lay (Z : Que n al op ad t f q m h) {c v : Nat} (hh : h < m) (ev : f (q h) = some v) (hc : c < n) (ha : ad (q h) c) (hl : al c) (hn : f c = none) (ho : ¬ op c) : Que n al op ad t (fse f c (v + 1)) q m h := by
  obtain ⟨z1, z2, z3, z4, z5, z6, z7, z8⟩ := Z
  have fo : ∀ i k, i < m → fse f c (v + 1) (q i) = some k → f (q i) = some k := fun i k hi e => by
    obtain ⟨_, _, k', e'⟩ := z3 i hi
    rw [fse_ext hn e'] at e
    rw [e', Option.some.inj e]
  refine ⟨fse_ext hn z1, fun x k hx e => ?_, fun i hi => ?_, fun i j a b hij hj ea eb => z4 i j a b hij hj (fo i a (by omega) ea) (fo j b hj eb), fun j a b h1 h2 ea eb => z5 j a b h1 h2 (fo h a hh ea) (fo j b h2 eb), fun i k h1 h2 e x hx hax hlx => ?_, fun x k hx hox e => ?_, ?_⟩
  · by_cases ex : x = c
    · rw [ex, fse_at] at e
      rw [ex]
      exact Or.inr ⟨q h, v, (z3 h hh).1, (z3 h hh).2.1, ha, hl, fse_ext hn ev, (Option.some.inj e).symm⟩
    · rw [fse_ne ex] at e
      rcases z2 x k hx e with g | ⟨y, k', g1, g2, g3, g4, g5, g6⟩
      · exact Or.inl g
      · exact Or.inr ⟨y, k', g1, g2, g3, g4, fse_ext hn g5, g6⟩
  · obtain ⟨g1, g2, k, g3⟩ := z3 i hi
    exact ⟨g1, g2, k, fse_ext hn g3⟩
  · obtain ⟨j, j1, j2⟩ := z6 i k h1 h2 (fo i k h2 e) x hx hax hlx
    exact ⟨j, fse_ext hn j1, j2⟩
  · by_cases ex : x = c
    · rw [ex] at hox
      exact absurd hox ho
    · rw [fse_ne ex] at e
      exact z7 x k hx hox e
  · rw [csn_up hn n hc]
    omega
theorem Que.room (Z : Que n al op ad t f q m h) {c : Nat} (hc : c < n) (hn : f c = none) : m < n := by
  have := csn_lt hn n hc
  have := Z.2.2.2.2.2.2.2
  omega
end QU
