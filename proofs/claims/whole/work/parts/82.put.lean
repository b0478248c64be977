/-! PUT BY: how many can be put by together (m), and by what sizes together (s) -/
def dlt (B : Nat → Bool) (x : Nat) : Nat → Bool := fun y => B y && !decide (y = x)
theorem dlt_t {B : Nat → Bool} {x y : Nat} : dlt B x y = true ↔ B y = true ∧ ¬ y = x := by
  unfold dlt
  simp
theorem dlt_comm (B : Nat → Bool) (x y : Nat) : dlt (dlt B x) y = dlt (dlt B y) x := by
  funext z
  unfold dlt
  cases B z <;> cases decide (z = x) <;> cases decide (z = y) <;> rfl
def Mq (sz tm : Nat → Nat) : List Nat → (Nat → Bool) → Nat → Nat → Prop
  | [], _, m, s => m = 0 ∧ s = 0
  | p :: P, B, m, s => Mq sz tm P B m s ∨ ∃ x m' s', B x = true ∧ tm p ≤ sz x ∧ m = m' + 1 ∧ s = s' + sz x ∧ Mq sz tm P (dlt B x) m' s'
section MQ
variable {sz tm : Nat → Nat}
theorem mq_skip {p m s : Nat} {P : List Nat} {B : Nat → Bool} (h : Mq sz tm P B m s) : Mq sz tm (p :: P) B m s := Or.inl h
theorem mq_take {p m s x : Nat} {P : List Nat} {B : Nat → Bool} (hx : B x = true) (ht : tm p ≤ sz x) (h : Mq sz tm P (dlt B x) m s) : Mq sz tm (p :: P) B (m + 1) (s + sz x) := Or.inr ⟨x, m, s, hx, ht, rfl, rfl, h⟩
theorem mq_mono : ∀ (P : List Nat) (B B' : Nat → Bool) (m s : Nat), (∀ x, B x = true → B' x = true) → Mq sz tm P B m s → Mq sz tm P B' m s
  | [], _, _, _, _, _, h => h
  | p :: P, B, B', m, s, hb, h => by
    rcases h with h | ⟨x, m', s', h1, h2, h3, h4, h5⟩
    · exact Or.inl (mq_mono P B B' m s hb h)
    · exact Or.inr ⟨x, m', s', hb x h1, h2, h3, h4, mq_mono P _ _ m' s' (fun y hy => dlt_t.mpr ⟨hb y (dlt_t.mp hy).1, (dlt_t.mp hy).2⟩) h5⟩
theorem mq_swap {p q m s : Nat} {P : List Nat} {B : Nat → Bool} (h : Mq sz tm (p :: q :: P) B m s) : Mq sz tm (q :: p :: P) B m s := by
  rcases h with h | ⟨x, m', s', h1, h2, h3, h4, h5⟩
  · rcases h with h | ⟨y, m1, s1, g1, g2, g3, g4, g5⟩
    · exact mq_skip (mq_skip h)
    · subst g3 g4
      exact mq_take g1 g2 (mq_skip g5)
  · subst h3 h4
    rcases h5 with h5 | ⟨y, m1, s1, g1, g2, g3, g4, g5⟩
    · exact mq_skip (mq_take h1 h2 h5)
    · subst g3 g4
      have a := dlt_t.mp g1
      rw [dlt_comm] at g5
      rw [show s1 + sz y + sz x = s1 + sz x + sz y by omega]
      exact mq_take a.1 g2 (mq_take (dlt_t.mpr ⟨h1, fun e => a.2 e.symm⟩) h2 g5)
theorem mq_perm {P P' : List Nat} (hp : List.Perm P P') : ∀ (B : Nat → Bool) (m s : Nat), Mq sz tm P B m s → Mq sz tm P' B m s := by
  induction hp with
  | nil => exact fun _ _ _ h => h
  | cons p _ ih =>
    intro B m s h
    rcases h with h | ⟨x, m', s', h1, h2, h3, h4, h5⟩
    · exact Or.inl (ih B m s h)
    · exact Or.inr ⟨x, m', s', h1, h2, h3, h4, ih _ _ _ h5⟩
  | swap p q P => exact fun B m s h => mq_swap h
  | trans _ _ ih1 ih2 => exact fun B m s h => ih2 B m s (ih1 B m s h)
theorem mq_bd : ∀ (P : List Nat) (B : Nat → Bool) (m s : Nat), (∀ x, B x = true → sz x ≤ 99) → Mq sz tm P B m s → m ≤ P.length ∧ s ≤ 99 * m
  | [], _, _, _, _, h => by
    rw [h.1, h.2]
    exact ⟨Nat.zero_le _, Nat.zero_le _⟩
  | p :: P, B, m, s, hb, h => by
    show m ≤ P.length + 1 ∧ _
    rcases h with h | ⟨x, m', s', h1, h2, h3, h4, h5⟩
    · have := mq_bd P B m s hb h
      omega
    · have := mq_bd P _ m' s' (fun y hy => hb y (dlt_t.mp hy).1) h5
      have := hb x h1
      omega
theorem mq_split (b : Nat) : ∀ (P : List Nat) (B : Nat → Bool) (m s : Nat), Mq sz tm P B m s → Mq sz tm P (dlt B b) m s ∨ ∃ q P' m' s', List.Perm P (q :: P') ∧ tm q ≤ sz b ∧ m = m' + 1 ∧ s = s' + sz b ∧ Mq sz tm P' (dlt B b) m' s'
  | [], _, _, _, h => Or.inl h
  | p :: P, B, m, s, h => by
    rcases h with h | ⟨x, m1, s1, h1, h2, h3, h4, h5⟩
    · rcases mq_split b P B m s h with g | ⟨q, P', m', s', g1, g2, g3, g4, g5⟩
      · exact Or.inl (mq_skip g)
      · exact Or.inr ⟨q, p :: P', m', s', (List.Perm.cons p g1).trans (List.Perm.swap q p P'), g2, g3, g4, mq_skip g5⟩
    · by_cases e : x = b
      · subst e
        exact Or.inr ⟨p, P, m1, s1, List.Perm.refl _, h2, h3, h4, h5⟩
      · subst h3 h4
        rcases mq_split b P _ m1 s1 h5 with g | ⟨q, P', m', s', g1, g2, g3, g4, g5⟩
        · rw [dlt_comm] at g
          exact Or.inl (mq_take (dlt_t.mpr ⟨h1, e⟩) h2 g)
        · rw [dlt_comm] at g5
          subst g3 g4
          exact Or.inr ⟨q, p :: P', m' + 1, s' + sz x, (List.Perm.cons p g1).trans (List.Perm.swap q p P'), g2, rfl, by omega, mq_take (dlt_t.mpr ⟨h1, e⟩) h2 g5⟩
theorem mq_none : ∀ (P : List Nat) (B : Nat → Bool) (m s : Nat), (∀ x, B x = false) → Mq sz tm P B m s → m = 0 ∧ s = 0
  | [], _, _, _, _, h => h
  | p :: P, B, m, s, hb, h => by
    rcases h with h | ⟨x, m', s', h1, _⟩
    · exact mq_none P B m s hb h
    · rw [hb x] at h1
      cases h1
/-- the least puffball to the least temper -/
def gre (sz tm : Nat → Nat) (B : Nat → Bool) : List Nat → List Nat → Nat × Nat
  | [], _ => (0, 0)
  | _ :: _, [] => (0, 0)
  | b :: bs, p :: ps => if B b = true ∧ tm p ≤ sz b then ((gre sz tm B bs ps).1 + 1, (gre sz tm B bs ps).2 + sz b) else gre sz tm B bs (p :: ps)
theorem gre_t {B : Nat → Bool} {b p : Nat} {bs ps : List Nat} (h : B b = true ∧ tm p ≤ sz b) : gre sz tm B (b :: bs) (p :: ps) = ((gre sz tm B bs ps).1 + 1, (gre sz tm B bs ps).2 + sz b) := by
  show (if _ then _ else _) = _
  rw [if_pos h]
theorem gre_f {B : Nat → Bool} {b p : Nat} {bs ps : List Nat} (h : ¬ (B b = true ∧ tm p ≤ sz b)) : gre sz tm B (b :: bs) (p :: ps) = gre sz tm B bs (p :: ps) := by
  show (if _ then _ else _) = _
  rw [if_neg h]
theorem gre_n {B : Nat → Bool} : ∀ bs : List Nat, gre sz tm B bs [] = (0, 0)
  | [] => rfl
  | _ :: _ => rfl
/-- those of B that are in the list -/
def inL (B : Nat → Bool) (bs : List Nat) : Nat → Bool := fun x => B x && decide (x ∈ bs)
theorem inL_t {B : Nat → Bool} {bs : List Nat} {x : Nat} : inL B bs x = true ↔ B x = true ∧ x ∈ bs := by
  unfold inL
  simp
theorem mq_0 : ∀ (P : List Nat) (B : Nat → Bool), Mq sz tm P B 0 0
  | [], _ => ⟨rfl, rfl⟩
  | _ :: P, B => mq_skip (mq_0 P B)
theorem gre_ok {B : Nat → Bool} : ∀ (bs ps : List Nat), List.Nodup bs → Mq sz tm ps (inL B bs) (gre sz tm B bs ps).1 (gre sz tm B bs ps).2
  | [], ps, _ => mq_0 ps _
  | b :: bs, [], _ => ⟨rfl, rfl⟩
  | b :: bs, p :: ps, hn => by
    have hn2 := List.nodup_cons.mp hn
    by_cases h : B b = true ∧ tm p ≤ sz b
    · rw [gre_t h]
      refine mq_take (inL_t.mpr ⟨h.1, List.mem_cons_self⟩) h.2 (mq_mono ps _ _ _ _ (fun x hx => ?_) (gre_ok bs ps hn2.2))
      have := inL_t.mp hx
      exact dlt_t.mpr ⟨inL_t.mpr ⟨this.1, List.mem_cons_of_mem _ this.2⟩, fun e => hn2.1 (e ▸ this.2)⟩
    · rw [gre_f h]
      exact mq_mono _ _ _ _ _ (fun x hx => inL_t.mpr ⟨(inL_t.mp hx).1, List.mem_cons_of_mem _ (inL_t.mp hx).2⟩) (gre_ok bs (p :: ps) hn2.2)
theorem gre_best {B : Nat → Bool} : ∀ (bs ps : List Nat), List.Pairwise (fun a b => sz a ≤ sz b) bs → List.Pairwise (fun a b => tm a ≤ tm b) ps → ∀ m s, Mq sz tm ps (inL B bs) m s → m < (gre sz tm B bs ps).1 ∨ (m = (gre sz tm B bs ps).1 ∧ (gre sz tm B bs ps).2 ≤ s)
  | [], ps, _, _, m, s, h => by
    have := mq_none ps _ m s (fun x => by unfold inL; simp) h
    show m < 0 ∨ m = 0 ∧ 0 ≤ s
    omega
  | b :: bs, [], _, _, m, s, h => by
    have : m = 0 ∧ s = 0 := h
    show m < 0 ∨ m = 0 ∧ 0 ≤ s
    omega
  | b :: bs, p :: ps, hb, hp, m, s, h => by
    have hb2 := List.pairwise_cons.mp hb
    have hp2 := List.pairwise_cons.mp hp
    have hsub : ∀ x, dlt (inL B (b :: bs)) b x = true → inL B bs x = true := fun x hx => by
      have h1 := dlt_t.mp hx
      have h2 := inL_t.mp h1.1
      rcases List.mem_cons.mp h2.2 with e | e
      · exact absurd e h1.2
      · exact inL_t.mpr ⟨h2.1, e⟩
    by_cases h0 : B b = true ∧ tm p ≤ sz b
    · rw [gre_t h0]
      show m < (gre sz tm B bs ps).1 + 1 ∨ (m = (gre sz tm B bs ps).1 + 1 ∧ (gre sz tm B bs ps).2 + sz b ≤ s)
      rcases mq_split b _ _ m s h with g | ⟨q, P', m', s', g1, g2, g3, g4, g5⟩
      · rcases g with g | ⟨x, m1, s1, k1, k2, k3, k4, k5⟩
        · have := gre_best bs ps hb2.2 hp2.2 m s (mq_mono _ _ _ _ _ hsub g)
          omega
        · have := gre_best bs ps hb2.2 hp2.2 m1 s1 (mq_mono _ _ _ _ _ (fun y hy => hsub y (dlt_t.mp hy).1) k5)
          have := hb2.1 x (inL_t.mp (hsub x k1)).2
          omega
      · have main : Mq sz tm ps (inL B bs) m' s' := by
          by_cases e : q = p
          · subst e
            exact mq_mono _ _ _ _ _ hsub (mq_perm ((List.perm_cons q).mp g1).symm _ _ _ g5)
          · have hm : p ∈ P' := by
              have : p ∈ q :: P' := g1.subset List.mem_cons_self
              rcases List.mem_cons.mp this with e2 | e2
              · exact absurd e2.symm e
              · exact e2
            have e1 := List.perm_cons_erase hm
            have e2 : List.Perm (p :: ps) (p :: q :: P'.erase p) := g1.trans ((List.Perm.cons q e1).trans (List.Perm.swap p q _))
            have e3 := (List.perm_cons p).mp e2
            have g6 := mq_perm e1 _ _ _ g5
            refine mq_perm e3.symm _ _ _ ?_
            rcases g6 with g6 | ⟨x, m1, s1, k1, k2, k3, k4, k5⟩
            · exact mq_skip (mq_mono _ _ _ _ _ hsub g6)
            · subst k3 k4
              refine mq_take (hsub x k1) ?_ (mq_mono _ _ _ _ _ (fun y hy => dlt_t.mpr ⟨hsub y (dlt_t.mp hy).1, (dlt_t.mp hy).2⟩) k5)
              have := hb2.1 x (inL_t.mp (hsub x k1)).2
              omega
        have := gre_best bs ps hb2.2 hp2.2 m' s' main
        omega
    · rw [gre_f h0]
      refine gre_best bs (p :: ps) hb2.2 hp m s ?_
      by_cases hB : B b = true
      · rcases mq_split b _ _ m s h with g | ⟨q, P', m', s', g1, g2, g3, g4, g5⟩
        · exact mq_mono _ _ _ _ _ hsub g
        · exfalso
          have hq : q ∈ p :: ps := g1.symm.subset List.mem_cons_self
          have : tm p ≤ tm q := by
            rcases List.mem_cons.mp hq with e | e
            · rw [e]
              exact Nat.le_refl _
            · exact hp2.1 q e
          exact h0 ⟨hB, by omega⟩
      · refine mq_mono _ _ _ _ _ (fun x hx => ?_) h
        have h2 := inL_t.mp hx
        rcases List.mem_cons.mp h2.2 with e | e
        · rw [e] at h2
          exact absurd h2.1 hB
        · exact inL_t.mpr ⟨h2.1, e⟩
/-- the most, and of those the least sizes -/
def Opt (sz tm : Nat → Nat) (P : List Nat) (B : Nat → Bool) (m s : Nat) : Prop := Mq sz tm P B m s ∧ ∀ m' s', Mq sz tm P B m' s' → m' < m ∨ (m' = m ∧ s ≤ s')
theorem opt_one {P : List Nat} {B : Nat → Bool} {m s m' s' : Nat} (h : Opt sz tm P B m s) (h' : Opt sz tm P B m' s') : m = m' ∧ s = s' := by
  have := h.2 m' s' h'.1
  have := h'.2 m s h.1
  omega
theorem opt_perm {P P' : List Nat} {B : Nat → Bool} {m s : Nat} (hp : List.Perm P P') (h : Opt sz tm P B m s) : Opt sz tm P' B m s := ⟨mq_perm hp _ _ _ h.1, fun m' s' g => h.2 m' s' (mq_perm hp.symm _ _ _ g)⟩
theorem gre_opt {B : Nat → Bool} {bs ps : List Nat} (hn : List.Nodup bs) (hb : List.Pairwise (fun a b => sz a ≤ sz b) bs) (hp : List.Pairwise (fun a b => tm a ≤ tm b) ps) (hB : ∀ x, B x = true → x ∈ bs) : Opt sz tm ps B (gre sz tm B bs ps).1 (gre sz tm B bs ps).2 := by
  have e : inL B bs = B := by
    funext x
    cases h : B x with
    | false => simp [inL, h]
    | true => exact inL_t.mpr ⟨h, hB x h⟩
  have h1 := gre_ok (sz := sz) (tm := tm) (B := B) bs ps hn
  have h2 := gre_best (sz := sz) (tm := tm) (B := B) bs ps hb hp
  rw [e] at h1 h2
  exact ⟨h1, h2⟩
/-- with one of whom nothing can come -/
theorem opt_skip {p : Nat} {P : List Nat} {B : Nat → Bool} {m s : Nat} (h : Opt sz tm (p :: P) B m s) (hno : ∀ x m' s', B x = true → tm p ≤ sz x → Opt sz tm P (dlt B x) m' s' → ¬ (m = m' + 1 ∧ s = s' + sz x)) (hex : ∀ x, B x = true → tm p ≤ sz x → ∃ m' s', Opt sz tm P (dlt B x) m' s') : Opt sz tm P B m s := by
  refine ⟨?_, fun m' s' g => h.2 m' s' (mq_skip g)⟩
  rcases h.1 with g | ⟨x, m', s', g1, g2, g3, g4, g5⟩
  · exact g
  · exfalso
    obtain ⟨m1, s1, o⟩ := hex x g1 g2
    have a := o.2 m' s' g5
    have b := h.2 _ _ (mq_take (p := p) g1 g2 o.1)
    exact hno x m1 s1 g1 g2 o (by omega)
theorem perm_of : ∀ (l l' : List Nat), l.Nodup → l'.Nodup → (∀ a, a ∈ l ↔ a ∈ l') → List.Perm l l'
  | [], l', _, _, h => by
    cases l' with
    | nil => exact List.Perm.refl _
    | cons a t => exact absurd ((h a).mpr List.mem_cons_self) (by simp)
  | a :: l, l', h1, h2, h => by
    have h1' := List.nodup_cons.mp h1
    have ha : a ∈ l' := (h a).mp List.mem_cons_self
    refine (List.Perm.cons a (perm_of l (l'.erase a) h1'.2 (List.Nodup.erase a h2) (fun b => ?_))).trans (List.perm_cons_erase ha).symm
    rw [List.Nodup.mem_erase_iff h2]
    constructor
    · intro hb
      exact ⟨fun e => h1'.1 (e ▸ hb), (h b).mp (List.mem_cons_of_mem _ hb)⟩
    · intro hb
      rcases List.mem_cons.mp ((h b).mpr hb.2) with e | e
      · exact absurd e hb.1
      · exact e
end MQ
/-! rows in order -/
def sg (f : Nat → Nat) (q : Nat → Bool) : Nat → Nat → List Nat
  | _, 0 => []
  | i, n + 1 => if q (f i) then f i :: sg f q (i + 1) n else sg f q (i + 1) n
theorem sg_t {f : Nat → Nat} {q : Nat → Bool} {i n : Nat} (h : q (f i) = true) : sg f q i (n + 1) = f i :: sg f q (i + 1) n := by
  show (if _ then _ else _) = _
  rw [if_pos h]
theorem sg_f {f : Nat → Nat} {q : Nat → Bool} {i n : Nat} (h : q (f i) = false) : sg f q i (n + 1) = sg f q (i + 1) n := by
  show (if _ then _ else _) = _
  rw [if_neg (by rw [h]; decide)]
theorem sg_mem {f : Nat → Nat} {q : Nat → Bool} {x : Nat} : ∀ n i, x ∈ sg f q i n ↔ q x = true ∧ ∃ j, i ≤ j ∧ j < i + n ∧ f j = x
  | 0, i => by
    constructor
    · intro h
      cases h
    · intro ⟨_, j, h1, h2, _⟩
      omega
  | n + 1, i => by
    have ih := sg_mem (f := f) (q := q) (x := x) n (i + 1)
    cases hq : q (f i) with
    | true =>
      rw [sg_t hq, List.mem_cons, ih]
      constructor
      · intro h
        rcases h with h | ⟨h1, j, h2, h3, h4⟩
        · exact ⟨h ▸ hq, i, Nat.le_refl _, by omega, h.symm⟩
        · exact ⟨h1, j, by omega, by omega, h4⟩
      · intro ⟨h1, j, h2, h3, h4⟩
        by_cases e : j = i
        · exact Or.inl (by rw [← h4, e])
        · exact Or.inr ⟨h1, j, by omega, by omega, h4⟩
    | false =>
      rw [sg_f hq, ih]
      constructor
      · intro ⟨h1, j, h2, h3, h4⟩
        exact ⟨h1, j, by omega, by omega, h4⟩
      · intro ⟨h1, j, h2, h3, h4⟩
        refine ⟨h1, j, ?_, by omega, h4⟩
        by_cases e : j = i
        · rw [← h4, e, hq] at h1
          cases h1
        · omega
theorem sg_pw {f : Nat → Nat} {q : Nat → Bool} {R : Nat → Nat → Prop} : ∀ n i, (∀ a b, i ≤ a → a < b → b < i + n → R (f a) (f b)) → List.Pairwise R (sg f q i n)
  | 0, _, _ => List.Pairwise.nil
  | n + 1, i, h => by
    have ih := sg_pw (f := f) (q := q) (R := R) n (i + 1) (fun a b h1 h2 h3 => h a b (by omega) h2 (by omega))
    cases hq : q (f i) with
    | true =>
      rw [sg_t hq]
      refine List.pairwise_cons.mpr ⟨fun x hx => ?_, ih⟩
      obtain ⟨_, j, h1, h2, rfl⟩ := (sg_mem n (i + 1)).mp hx
      exact h i j (Nat.le_refl _) (by omega) (by omega)
    | false =>
      rw [sg_f hq]
      exact ih
theorem sg_len {f : Nat → Nat} {q : Nat → Bool} : ∀ n i, (sg f q i n).length ≤ n
  | 0, _ => Nat.le_refl _
  | n + 1, i => by
    have ih := sg_len (f := f) (q := q) n (i + 1)
    cases hq : q (f i) with
    | true =>
      rw [sg_t hq]
      exact Nat.succ_le_succ ih
    | false =>
      rw [sg_f hq]
      omega
/-- f lays the first k in order -/
def Srt (w f : Nat → Nat) (k : Nat) : Prop := (∀ i, i < k → f i < k) ∧ (∀ x, x < k → ∃ i, i < k ∧ f i = x) ∧ ∀ i j, i < j → j < k → w (f i) ≤ w (f j) ∧ ¬ f i = f j
def ins (f : Nat → Nat) (a k : Nat) : Nat → Nat := fun i => if i < a then f i else if i = a then k else f (i - 1)
theorem srt_ins {w f : Nat → Nat} {a k : Nat} (h : Srt w f k) (ha : a ≤ k) (h1 : 0 < a → w (f (a - 1)) ≤ w k) (h2 : ∀ i, a ≤ i → i < k → w k < w (f i)) : Srt w (ins f a k) (k + 1) := by
  have g1 : ∀ i, i < a → w (f i) ≤ w k := fun i hi => by
    have := h1 (by omega)
    by_cases e : i = a - 1
    · rw [e]
      exact this
    · have := (h.2.2 i (a - 1) (by omega) (by omega)).1
      omega
  refine ⟨fun i hi => ?_, fun x hx => ?_, fun i j hij hj => ?_⟩
  · unfold ins
    split
    · have := h.1 i (by omega)
      omega
    · split
      · omega
      · have := h.1 (i - 1) (by omega)
        omega
  · by_cases e : x = k
    · refine ⟨a, by omega, ?_⟩
      unfold ins
      rw [if_neg (by omega), if_pos rfl, e]
    · obtain ⟨i, hi, hf⟩ := h.2.1 x (by omega)
      by_cases e2 : i < a
      · exact ⟨i, by omega, by unfold ins; rw [if_pos e2, hf]⟩
      · exact ⟨i + 1, by omega, by unfold ins; rw [if_neg (by omega), if_neg (by omega)]; exact hf⟩
  · unfold ins
    by_cases i1 : i < a
    · rw [if_pos i1]
      have := h.1 i (by omega)
      by_cases j1 : j < a
      · rw [if_pos j1]
        exact h.2.2 i j hij (by omega)
      · rw [if_neg j1]
        by_cases j2 : j = a
        · rw [if_pos j2]
          exact ⟨g1 i i1, by omega⟩
        · rw [if_neg j2]
          exact h.2.2 i (j - 1) (by omega) (by omega)
    · rw [if_neg i1]
      by_cases i2 : i = a
      · rw [if_pos i2, if_neg (by omega), if_neg (by omega)]
        have := h.1 (j - 1) (by omega)
        exact ⟨Nat.le_of_lt (h2 _ (by omega) (by omega)), by omega⟩
      · rw [if_neg i2, if_neg (by omega), if_neg (by omega)]
        exact h.2.2 (i - 1) (j - 1) (by omega) (by omega)
theorem srt_perm {w f : Nat → Nat} {q q' : Nat → Bool} {n p : Nat} (h : Srt w f n) (hp : p ≤ n) (hq : ∀ x, q x = true ↔ (p ≤ x ∧ x < n ∧ q' x = true)) : List.Perm (sg f q 0 n) (sg (fun i => i) q' p (n - p)) := by
  refine perm_of _ _ (sg_pw n 0 (fun a b _ h1 h2 => (h.2.2 a b h1 (by omega)).2)) (sg_pw (n - p) p (fun a b _ h1 _ => by omega)) (fun x => ?_)
  rw [sg_mem, sg_mem]
  constructor
  · intro ⟨h1, _⟩
    have := (hq x).mp h1
    exact ⟨this.2.2, x, this.1, by omega, rfl⟩
  · intro ⟨h1, j, h2, h3, h4⟩
    have h4 : j = x := h4
    obtain ⟨i, hi, hf⟩ := h.2.1 x (by omega)
    exact ⟨(hq x).mpr ⟨by omega, by omega, h1⟩, i, by omega, by omega, hf⟩
/-- what greedy gives in one number -/
theorem gre_bd {sz tm : Nat → Nat} {B : Nat → Bool} (hs : ∀ x, B x = true → sz x ≤ 99) : ∀ bs ps : List Nat, (gre sz tm B bs ps).2 ≤ 99 * (gre sz tm B bs ps).1
  | [], _ => Nat.zero_le _
  | _ :: _, [] => Nat.zero_le _
  | b :: bs, p :: ps => by
    by_cases h : B b = true ∧ tm p ≤ sz b
    · rw [gre_t h]
      have := gre_bd (tm := tm) hs bs ps
      have := hs b h.1
      show (gre sz tm B bs ps).2 + sz b ≤ 99 * ((gre sz tm B bs ps).1 + 1)
      omega
    · rw [gre_f h]
      exact gre_bd hs bs (p :: ps)
def wth (g : Nat × Nat) : Nat := 1000 * g.1 - g.2
theorem wth_t {sz tm : Nat → Nat} {B : Nat → Bool} (hs : ∀ x, B x = true → sz x ≤ 99) {b p : Nat} {bs ps : List Nat} (h : B b = true ∧ tm p ≤ sz b) : wth (gre sz tm B (b :: bs) (p :: ps)) = (1000 - sz b) + wth (gre sz tm B bs ps) := by
  have h1 := gre_bd (tm := tm) hs bs ps
  have h2 := hs b h.1
  rw [gre_t h]
  unfold wth
  show 1000 * ((gre sz tm B bs ps).1 + 1) - ((gre sz tm B bs ps).2 + sz b) = _
  omega
/-- whether it is right to take this one, and which is taken -/
def Gd (sz tm : Nat → Nat) (n p : Nat) (B : Nat → Bool) (x : Nat) : Prop := B x = true ∧ 0 < tm p ∧ tm p ≤ sz x ∧ ∃ m s, Opt sz tm (sg (fun i => i) (fun i => decide (0 < tm i)) (p + 1) (n - (p + 1))) (dlt B x) m s ∧ Opt sz tm (sg (fun i => i) (fun i => decide (0 < tm i)) p (n - p)) B (m + 1) (s + sz x)
theorem pl_t {tm : Nat → Nat} {n p : Nat} (hp : p < n) (h : 0 < tm p) : sg (fun i => i) (fun i => decide (0 < tm i)) p (n - p) = p :: sg (fun i => i) (fun i => decide (0 < tm i)) (p + 1) (n - (p + 1)) := by
  rw [show n - p = (n - (p + 1)) + 1 by omega, sg_t (by exact decide_eq_true h)]
theorem pl_f {tm : Nat → Nat} {n p : Nat} (hp : p < n) (h : ¬ 0 < tm p) : sg (fun i => i) (fun i => decide (0 < tm i)) p (n - p) = sg (fun i => i) (fun i => decide (0 < tm i)) (p + 1) (n - (p + 1)) := by
  rw [show n - p = (n - (p + 1)) + 1 by omega, sg_f (by exact decide_eq_false h)]
