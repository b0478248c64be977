/-! THE CLASS: what goes off, who goes out, days -/
/-- the cells that days change in the class, beside the scene's row -/
def dl (q : Nat) : List Nat := [q + 1, 39, 40, 41, 42]
theorem sc_ni {q : Nat} (h : Sc q) : 12 ≤ q ∧ q + 1 ≠ 38 ∧ q + 1 ≠ 39 ∧ q + 1 ≠ 40 ∧ q + 1 ≠ 41 ∧ q + 1 ≠ 42 := by
  rcases sc_ge h with h | h | h | h | h | h | h <;> omega
theorem dl_land {q : Nat} {S S' : St} (hq : Sc q) (h : Fr (dl q) S S') : ∀ k, 3 ≤ k → k ≤ 11 → S' k = S k := by
  intro k h1 h2
  have := sc_ni hq
  refine h k ?_
  unfold dl
  simp only [List.mem_cons, List.not_mem_nil, or_false, not_or]
  omega
theorem LC_dl {l : Lnd} {q : Nat} {S S' : St} (hq : Sc q) (hL : LC l S) (h : Fr (dl q) S S') : LC l S' := LC_fr hL (dl_land hq h)
theorem fr_q {q : Nat} {S S' : St} (h : Fr [q + 1] S S') : Fr (dl q) S S' := h.mono (fun k hk => by unfold dl; simp only [List.mem_cons, List.not_mem_nil, or_false] at hk ⊢; omega)
theorem fr_40 {q : Nat} {S S' : St} (h : Fr [40] S S') : Fr (dl q) S S' := h.mono (fun k hk => by unfold dl; simp only [List.mem_cons, List.not_mem_nil, or_false] at hk ⊢; omega)
theorem fr_42 {q : Nat} {S S' : St} (h : Fr [42] S S') : Fr (dl q) S S' := h.mono (fun k hk => by unfold dl; simp only [List.mem_cons, List.not_mem_nil, or_false] at hk ⊢; omega)
theorem fr_4142 {q : Nat} {S S' : St} (h : Fr [41, 42] S S') : Fr (dl q) S S' := h.mono (fun k hk => by unfold dl; simp only [List.mem_cons, List.not_mem_nil, or_false] at hk ⊢; omega)
theorem fr_u {q k : Nat} {S : St} (i : Nat) (v : Int32) (hk : k = 39 ∨ k = 40 ∨ k = 41 ∨ k = 42) : Fr (dl q) S (up S k i v) := Fr.up _ _ (by unfold dl; simp only [List.mem_cons, List.not_mem_nil, or_false]; omega)
theorem row_of {q : Nat} {S S' : St} {ks : List Nat} (hq : Sc q) (h : Fr ks S S') (hk : ∀ k, k ∈ ks → 38 ≤ k ∧ k ≤ 42) : S' (q + 1) = S (q + 1) := by
  refine h (q + 1) (fun hm => ?_)
  have := hk _ hm
  have := sc_ni hq
  omega
section DW
variable {l : Lnd} {S : St} {E : zX} {d q : Nat} {A : Scn}
/-- cells are cells -/
def COk (l : Lnd) (A : Scn) : Prop := ∀ x, x < lb l → A 5 x = nI (cel A x) ∧ cel A x < lw l * lh l
theorem COk_of {A' : Scn} (h : COk l A) (e : A' 5 = A 5) : COk l A' := by
  unfold COk cel
  rw [e]
  exact h
theorem AOk.cell (hl : LOk l) (h : AOk l A) : COk l A := by
  intro x hx
  obtain ⟨c, h1, h2⟩ := (h.1 x hx).1
  have := hl.c36
  have e : cel A x = c := by
    unfold cel
    rw [h2, nI_clamp (by omega)]
  rw [e]
  exact ⟨h2, h1⟩
theorem c_reaches {x c : Nat} {y : Int32} {Q : Int32 → St → Prop} (hd : 1 ≤ d) (hL : LC l S) (hq : Sc q) (hA : ScC l (S (q + 1)) A) (hO : COk l A) (hx : x < lb l) (hy : y = nI c) (hc : c < lw l * lh l) (h : Q (zb (rch l A x c = true)) S) : k_Downs_reaches E d S q (nI x) y Q := by
  subst hy
  obtain ⟨e1, e2⟩ := hO x hx
  refine w_Downs_reaches hd hq (c_cellOf hL.ok hq hA hx (c_far hL e1 rfl e2 hc (c_heldIn hL.ok hq hA hx ?_)))
  refine ife (fun hc => ?_) (fun hc => ?_)
  · rw [zb_f (by unfold rch; rw [decide_eq_true_eq]; exact Int32.not_le.mpr hc)] at h
    exact h
  · rw [zb_t (by unfold rch; rw [decide_eq_true_eq]; exact Int32.not_lt.mp hc)] at h
    exact h
theorem ua5 {k : Nat} (i : Nat) (v : Int32) (h : k ≠ 5) : ua A k i v 5 = A 5 := ua_ne _ _ _ (Ne.symm h)
theorem fill5 (x : Nat) (t o : Int32) : fill A x t o 5 = A 5 := by
  unfold fill
  rw [ua5 _ _ (by decide), ua5 _ _ (by decide), ua5 _ _ (by decide)]
theorem hear5 (p : Nat) (n : Int32) : hear A p n 5 = A 5 := by
  unfold hear
  rw [ua5 _ _ (by decide), ua5 _ _ (by decide)]
theorem zfo_inv {α : Type} {f : Nat → α → α} (P : α → Prop) {n : Nat} (h : ∀ k a, k < n → P a → P (f k a)) {a : α} (h0 : P a) : P (zfo f n a) := by
  induction n with
  | zero => exact h0
  | succ n ih => exact h n _ (Nat.lt_succ_self n) (ih (fun k a hk => h k a (by omega)))
/-! links -/
def lnkF (l : Lnd) (A : Scn) (x y : Nat) : Bool := held A x && nearF l A x y
def lnk (l : Lnd) (A : Scn) (x : Nat) : Nat := mkN (lnkF l A x) (lb l)
theorem mkN_false {p : Nat → Bool} {n : Nat} (h : ∀ i, i < n → p i = false) : mkN p n = 0 := bits_ext (fun i => by
  rw [mkN_bit, Nat.zero_testBit]
  by_cases hi : i < n
  · rw [h i hi, Bool.and_false]
  · simp [hi])
theorem c_link {Q : St → Prop} (hd : 2 ≤ d) (hL : LC l S) (hq : Sc q) (hA : ScC l (S (q + 1)) A) (hO : COk l A) (h : ∀ S', Fr [40] S S' → (∀ x, x < lb l → S' 40 x = nI (lnk l A x)) → Q S') : k_Downs_link E d S q Q := by
  have b10 := hL.ok.b10
  have hL' : ∀ S', Fr [40] S S' → LC l S' := fun S' f => LC_dl hq hL (fr_40 f)
  have hA' : ∀ S', Fr [40] S S' → ScC l (S' (q + 1)) A := fun S' f => by
    rw [row_of hq f (fun k hk => by simp only [List.mem_cons, List.not_mem_nil, or_false] at hk; omega)]
    exact hA
  refine w_Downs_link (by omega) hq ?_
  refine dn (P := fun k => ∀ S', Fr [40] S S' → (∀ x, x < k → S' 40 x = nI (lnk l A x)) → k_Downs_link_2 E d S' q k Q) (lb l) ?_ ?_ 0 (Nat.zero_le _) S (Fr.refl _ _) (fun x hx => absurd hx (Nat.not_lt_zero x))
  · intro S' f hx
    exact w_Downs_link_2 (by omega) hq (ilp (lb l) (hL' S' f).b (by omega) (by omega) (fun _ => h S' f hx) (fun h => absurd h (Nat.lt_irrefl _)))
  · intro k hk ih S' f hx
    refine w_Downs_link_2 (by omega) hq (ilp (lb l) (hL' S' f).b (by omega) (by omega) (fun h => by omega) (fun _ => ⟨by omega, fun S1 e1 => ?_⟩))
    have f1 : Fr [40] S S1 := by
      rw [e1]
      exact f.trans (Fr.up _ _ List.mem_cons_self)
    have hx1 : ∀ x, x < k → S1 40 x = nI (lnk l A x) := fun x hx2 => by
      rw [e1, up_same, upd_ne _ _ (by omega), hx x hx2]
    have h0 : S1 40 k = nI (mkN (lnkF l A k) 0) := by
      rw [e1, up_same, upd_same]
      rfl
    refine dn (P := fun j => ∀ S', Fr [40] S S' → (∀ x, x < k → S' 40 x = nI (lnk l A x)) → S' 40 k = nI (mkN (lnkF l A k) j) → k_Downs_link_22 E d S' q k j Q) (lb l) ?_ ?_ 0 (Nat.zero_le _) S1 f1 hx1 h0
    · intro S2 f2 hx2 h2
      refine w_Downs_link_22 (by omega) hq (ilp (lb l) (hL' S2 f2).b (by omega) (by omega) (fun _ => ih S2 f2 (fun x hx3 => ?_)) (fun h => absurd h (Nat.lt_irrefl _)))
      by_cases e : x = k
      · rw [e]
        exact h2
      · exact hx2 x (by omega)
    · intro j hj ihj S2 f2 hx2 h2
      have L2 := hL' S2 f2
      have A2 := hA' S2 f2
      refine w_Downs_link_22 (by omega) hq (ilp (lb l) L2.b (by omega) (by omega) (fun h => by omega) (fun _ => ?_))
      refine c_isWhite L2.ok hq A2 hk (izb (fun hw => ?_) (fun hw => ?_))
      · -- white
        refine ih S2 f2 (fun x hx3 => ?_)
        by_cases e : x = k
        · subst e
          have hF : ∀ i, i < lb l → lnkF l A x i = false := fun i _ => by
            unfold lnkF held
            simp [hw]
          rw [h2, show lnk l A x = 0 from mkN_false hF, mkN_false (fun i hi => hF i (by omega))]
        · exact hx2 x (by omega)
      · have hh : held A k = true := decide_eq_true hw
        have skip : lnkF l A k j = false → S2 40 k = nI (mkN (lnkF l A k) (j + 1)) := fun e => by
          rw [h2, mkN_no e]
        refine ife (fun e => ?_) (fun e => ?_)
        · have e : j = k := (nI_eq (by omega) (by omega)).mp e
          refine ihj S2 f2 hx2 (skip ?_)
          unfold lnkF nearF
          simp [e]
        · have e : ¬ j = k := fun e2 => e (by rw [e2])
          refine c_isWhite L2.ok hq A2 hj (izb (fun hw2 => ?_) (fun hw2 => ?_))
          · refine ihj S2 f2 hx2 (skip ?_)
            unfold lnkF nearF
            simp [held, hw2]
          · refine c_cellOf L2.ok hq A2 hj (c_reaches (by omega) L2 hq A2 hO hk (hO j hj).1 (hO j hj).2 (izb (fun hr => ?_) (fun hr => ?_)))
            · refine ⟨by omega, by omega, fun S9 e9 => ?_⟩
              have t9 : lnkF l A k j = true := by
                unfold lnkF nearF
                rw [hh, hr]
                simp [held, hw2, e]
              refine ihj S9 ?_ (fun x hx3 => ?_) ?_
              · rw [e9]
                exact f2.trans (Fr.up _ _ List.mem_cons_self)
              · rw [e9, up_same, upd_ne _ _ (by omega), hx2 x hx3]
              · rw [e9, up_same, upd_same, h2, mkN_or (by omega) t9]
            · refine ihj S2 f2 hx2 (skip ?_)
              unfold lnkF nearF
              have hr : rch l A k (cel A j) = false := by simpa using hr
              rw [hr]
              simp
theorem lnk_lt (x : Nat) : lnk l A x < 2 ^ lb l := mkN_lt _ _
theorem lnk_bit {x y : Nat} : (lnk l A x).testBit y = true ↔ y < lb l ∧ held A x = true ∧ ¬ y = x ∧ held A y = true ∧ rch l A x (cel A y) = true := by
  unfold lnk
  rw [mkN_bit]
  unfold lnkF nearF
  simp only [Bool.and_eq_true, decide_eq_true_eq]
  constructor
  · rintro ⟨h1, h2, ⟨h3, h4⟩, h5⟩
    exact ⟨h1, h2, h3, h4, h5⟩
  · rintro ⟨h1, h2, h3, h4, h5⟩
    exact ⟨h1, h2, ⟨h3, h4⟩, h5⟩
theorem held_bit {i : Nat} : (heldM l A).testBit i = true ↔ i < lb l ∧ held A i = true := by
  unfold heldM
  rw [mkN_bit]
  simp
/-- what the chain gives is the least closed set -/
theorem Lst_clo {g s t : Nat} (hs : sub s (heldM l A)) (h : Lst (lnk l A) g (lb l) s t) : t = clo l A (sdf (heldM l A) g) s := by
  obtain ⟨h1, h2, h3, h4⟩ := h
  have hT : ∀ i, t.testBit i = true → (heldM l A).testBit i = true := h4 _ (fun x y _ _ hl _ => by
    rw [lnk_bit] at hl
    exact held_bit.mpr ⟨hl.1, hl.2.2.2.1⟩) hs
  refine clo_of h1 ⟨h2, ?_⟩ ?_
  · intro x y hx hxb hyb hc hr
    rw [sdf_bit, Bool.and_eq_true] at hc
    by_cases e : y = x
    · rw [e]
      exact hx
    · exact h3 x y hxb hx (lnk_bit.mpr ⟨hyb, (held_bit.mp (hT x hx)).2, e, (held_bit.mp hc.1).2, hr⟩) (by simpa using hc.2)
  · intro T hT2 i hi
    refine h4 T ?_ hT2.1 i hi
    intro x y hxb hx hl hg
    rw [lnk_bit] at hl
    refine hT2.2 x y hx hxb hl.1 ?_ hl.2.2.2.2
    rw [sdf_bit, hg, held_bit.mpr ⟨hl.1, hl.2.2.2.1⟩]
    rfl
/-- with the scene's own guards -/
theorem c_chainG {s : Nat} {Q : Int32 → St → Prop} (hL : LC l S) (hk : ∀ x, x < lb l → S 40 x = nI (lnk l A x)) (g : Nat) (hs : sub s (heldM l A)) (h : Q (nI (clo l A (sdf (heldM l A) g) s)) S) : k_Downs_chain E d S (nI s) (nI g) Q := by
  refine c_chain (lk := lnk l A) hL.b hL.ok hk (fun x _ => lnk_lt x) ?_ (fun t ht => ?_)
  · refine bits_lt (fun i hi => ?_)
    cases e : s.testBit i with
    | false => rfl
    | true =>
      have := (held_bit.mp (hs i e)).1
      omega
  · rw [Lst_clo hs ht]
    exact h
theorem nhr_le {T p : Nat} : ∀ n, nhr l A T p n ≤ n
  | 0 => Nat.le_refl _
  | n + 1 => by
    have := nhr_le (T := T) (p := p) n
    show (if T.testBit n && rch l A n (lhm l p) then nhr l A T p n + 1 else nhr l A T p n) ≤ n + 1
    split
    · exact Nat.succ_le_succ this
    · exact Nat.le_succ_of_le this
theorem c_heardOf {T p : Nat} {Q : Int32 → St → Prop} (hd : 2 ≤ d) (hL : LC l S) (hq : Sc q) (hA : ScC l (S (q + 1)) A) (hO : COk l A) (hp : p < lp l) (h : Q (nI (nhr l A T p (lb l))) S) : k_Downs_heardOf E d S q (nI T) (nI p) Q := by
  have b10 := hL.ok.b10
  have p7 := hL.ok.p7
  refine w_Downs_heardOf (by omega) hq ?_
  refine dn (P := fun k => k_Downs_heardOf_6 E d S q (nI T) p (nhr l A T p k) k Q) (lb l) ?_ ?_ 0 (Nat.zero_le _)
  · exact w_Downs_heardOf_6 (by omega) hq (ilp (lb l) hL.b (by omega) (by omega) (fun _ => h) (fun h => absurd h (Nat.lt_irrefl _)))
  · intro k hk ih
    have e : nhr l A T p (k + 1) = if T.testBit k && rch l A k (lhm l p) then nhr l A T p k + 1 else nhr l A T p k := rfl
    refine w_Downs_heardOf_6 (by omega) hq (ilp (lb l) hL.b (by omega) (by omega) (fun h => by omega) (fun _ => ?_))
    refine ife (fun hc => ?_) (fun hc => ?_)
    · rw [nI_tst (by omega)] at hc
      rw [e, if_neg (by rw [hc]; simp)] at ih
      exact ih
    · rw [nI_tst (by omega)] at hc
      have hc : T.testBit k = true := by simpa using hc
      refine ⟨by omega, c_reaches (by omega) hL hq hA hO hk (hL.hm hp) (hL.ok.hm hp) (izb (fun hr => ?_) (fun hr => ?_))⟩
      · rw [e, if_pos (by rw [hc, hr]; rfl)] at ih
        exact ih
      · rw [e, if_neg (by rw [hc]; simpa using hr)] at ih
        exact ih
theorem c_hearers {T : Nat} {Q : Int32 → St → Prop} (hd : 3 ≤ d) (hL : LC l S) (hq : Sc q) (hA : ScC l (S (q + 1)) A) (hO : COk l A) (h : Q (nI (mkN (fun p => decide (0 < nhr l A T p (lb l))) (lp l))) S) : k_Downs_hearers E d S q (nI T) Q := by
  have b10 := hL.ok.b10
  have p7 := hL.ok.p7
  refine w_Downs_hearers (by omega) hq ?_
  refine dn (P := fun k => k_Downs_hearers_5 E d S q (nI T) (nI (mkN (fun p => decide (0 < nhr l A T p (lb l))) k)) k Q) (lp l) ?_ ?_ 0 (Nat.zero_le _)
  · exact w_Downs_hearers_5 (by omega) hq (ilp (lp l) hL.p (by omega) (by omega) (fun _ => h) (fun h => absurd h (Nat.lt_irrefl _)))
  · intro k hk ih
    refine w_Downs_hearers_5 (by omega) hq (ilp (lp l) hL.p (by omega) (by omega) (fun h => by omega) (fun _ => ?_))
    refine c_heardOf (by omega) hL hq hA hO hk ?_
    have hn := nhr_le (l := l) (A := A) (T := T) (p := k) (lb l)
    refine ife (fun hc => ?_) (fun hc => ?_)
    · have : ¬ 0 < nhr l A T k (lb l) := fun h0 => nI_nle h0 (by omega) hc
      rw [mkN_no (decide_eq_false this)]
      exact ih
    · have : 0 < nhr l A T k (lb l) := by
        rcases Nat.eq_zero_or_pos (nhr l A T k (lb l)) with h0 | h0
        · rw [h0] at hc
          exact absurd (by decide) hc
        · exact h0
      rw [mkN_or (by omega) (decide_eq_true this)]
      exact ih
theorem c_burst {s : Nat} {Q : Int32 → St → Prop} (hd : 3 ≤ d) (hL : LC l S) (hq : Sc q) (hA : ScC l (S (q + 1)) A) (hO : COk l A) (hs : sub s (heldM l A)) (h : ∀ S', Fr [q + 1, 40] S S' → ScC l (S' (q + 1)) (bst l A s).1 → Q (nI (bst l A s).2) S') : k_Downs_burst E d S q (nI s) Q := by
  have b10 := hL.ok.b10
  have p7 := hL.ok.p7
  have s31 : s < 2 ^ 31 := Nat.lt_of_lt_of_le (bits_lt (n := lb l) (fun i hi => by
    cases e : s.testBit i with
    | false => rfl
    | true =>
      have := (held_bit.mp (hs i e)).1
      omega)) (Nat.pow_le_pow_right (by decide) (by omega))
  have hL' : ∀ S', Fr [q + 1, 40] S S' → LC l S' := fun S' f => LC_dl hq hL (f.mono (fun k hk => by unfold dl; simp only [List.mem_cons, List.not_mem_nil, or_false] at hk ⊢; omega))
  refine w_Downs_burst (by omega) hq (ife (fun e => ?_) (fun e => ?_))
  · have e : s = 0 := by
      rcases Nat.eq_zero_or_pos s with h0 | h0
      · exact h0
      · exact absurd e (nI_ne0 h0 s31)
    have := h S (Fr.refl _ _)
    unfold bst at this
    rw [if_pos e] at this
    exact this hA
  · have e : ¬ s = 0 := fun e2 => e (by rw [e2]; rfl)
    unfold bst at h
    rw [if_neg e] at h
    refine c_link (by omega) hL hq hA hO (fun S2 f2 k2 => ?_)
    have f2' : Fr [q + 1, 40] S S2 := f2.mono (fun k hk => by simp only [List.mem_cons, List.not_mem_nil, or_false] at hk ⊢; omega)
    have L2 := hL' S2 f2'
    have A2 : ScC l (S2 (q + 1)) A := by
      rw [row_of hq f2 (fun k hk => by simp only [List.mem_cons, List.not_mem_nil, or_false] at hk; omega)]
      exact hA
    refine c_guards hq A2 (c_chainG L2 k2 _ hs ?_)
    show k_Downs_burst_24 E d S2 q (nI (clo l A (freM l A) s)) 0 Q
    generalize hT : clo l A (freM l A) s = T
    have h : ∀ S', Fr [q + 1, 40] S S' → ScC l (S' (q + 1)) (goF l A T) → Q (nI T) S' := by
      have := h
      unfold goOff at this
      rw [hT] at this
      exact this
    refine dn (P := fun k => ∀ S', Fr [q + 1, 40] S S' → ScC l (S' (q + 1)) (zfo (fun p A => hear A p (nI (nhr l A T p (lb l)))) k A) → k_Downs_burst_24 E d S' q (nI T) k Q) (lp l) ?_ ?_ 0 (Nat.zero_le _) S2 f2' A2
    · intro S3 f3 A3
      refine w_Downs_burst_24 (by omega) hq (ilp (lp l) (hL' S3 f3).p (by omega) (by omega) (fun _ => ?_) (fun h => absurd h (Nat.lt_irrefl _)))
      refine dn (P := fun k => ∀ S', Fr [q + 1, 40] S S' → ScC l (S' (q + 1)) (zfo (fun x A => if T.testBit x then fill A x 0 (-1) else A) k (zfo (fun p A => hear A p (nI (nhr l A T p (lb l)))) (lp l) A)) → k_Downs_burst_59 E d S' q (nI T) k Q) (lb l) ?_ ?_ 0 (Nat.zero_le _) S3 f3 A3
      · intro S4 f4 A4
        exact w_Downs_burst_59 (by omega) hq (ilp (lb l) (hL' S4 f4).b (by omega) (by omega) (fun _ => h S4 f4 A4) (fun h => absurd h (Nat.lt_irrefl _)))
      · intro k hk ih S4 f4 A4
        refine w_Downs_burst_59 (by omega) hq (ilp (lb l) (hL' S4 f4).b (by omega) (by omega) (fun h => by omega) (fun _ => ?_))
        refine ife (fun hc => ?_) (fun hc => ?_)
        · rw [nI_tst (by omega)] at hc
          refine ih S4 f4 ?_
          show ScC l _ (if T.testBit k then _ else _)
          rw [if_neg (by rw [hc]; decide)]
          exact A4
        · rw [nI_tst (by omega)] at hc
          refine c_fill hL.ok hq A4 hk (fun S5 f5 A5 => ih S5 (f4.trans (f5.mono (fun k hk => by simp only [List.mem_cons, List.not_mem_nil, or_false] at hk ⊢; omega))) ?_)
          show ScC l _ (if T.testBit k then _ else _)
          rw [if_pos (by simpa using hc)]
          exact A5
    · intro k hk ih S3 f3 A3
      have L3 := hL' S3 f3
      refine w_Downs_burst_24 (by omega) hq (ilp (lp l) L3.p (by omega) (by omega) (fun h => by omega) (fun _ => ?_))
      have O3 : COk l (zfo (fun p A => hear A p (nI (nhr l A T p (lb l)))) k A) := zfo_inv (P := fun A' => COk l A') (fun _ A' _ h => COk_of h (hear5 _ _)) hO
      refine c_heardOf (by omega) L3 hq A3 O3 hk (c_hear (by omega) L3.ok hq A3 hk (fun S5 f5 A5 => ih S5 (f3.trans (f5.mono (fun k hk => by simp only [List.mem_cons, List.not_mem_nil, or_false] at hk ⊢; omega))) A5))
end DW
