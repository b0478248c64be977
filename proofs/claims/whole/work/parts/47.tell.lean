/-! THE CLASS: what is told of a scene -/
def whtM (l : Lnd) (A : Scn) : Nat := mkN (fun x => decide (A 6 x = 0)) (lb l)
def ownM (l : Lnd) (A : Scn) (v : Int32) : Nat := mkN (fun x => decide (A 8 x = v)) (lb l)
def ovrM (l : Lnd) (A : Scn) (c : Nat) : Nat := mkN (fun x => held A x && rch l A x c) (lb l)
def smK (A : Scn) (k n : Nat) : Int32 := zfo (fun i v => v + A k i) n 0
/-- the best by a strict order, the first of like ones -/
def bstS (ok : Nat → Bool) (lt : Nat → Nat → Bool) (x : Nat) (b : Option Nat) : Option Nat := if ok x then (match b with
  | none => some x
  | some y => if lt x y then some x else some y) else b
def bstF (ok : Nat → Bool) (lt : Nat → Nat → Bool) (n : Nat) : Option Nat := zfo (bstS ok lt) n none
theorem bstF_lt {ok : Nat → Bool} {lt : Nat → Nat → Bool} : ∀ n y, bstF ok lt n = some y → y < n ∧ ok y = true
  | 0, y, h => by cases h
  | n + 1, y, h => by
    have ih := bstF_lt (ok := ok) (lt := lt) n
    have h : bstS ok lt n (bstF ok lt n) = some y := h
    unfold bstS at h
    by_cases ho : ok n = true
    · rw [if_pos ho] at h
      cases hb : bstF ok lt n with
      | none =>
        rw [hb] at h
        cases h
        exact ⟨Nat.lt_succ_self _, ho⟩
      | some z =>
        rw [hb] at h
        have h : (if lt n z = true then some n else some z) = some y := h
        by_cases hl : lt n z = true
        · rw [if_pos hl] at h
          cases h
          exact ⟨Nat.lt_succ_self _, ho⟩
        · rw [if_neg hl] at h
          cases h
          exact ⟨Nat.lt_succ_of_lt (ih _ hb).1, (ih _ hb).2⟩
    · rw [if_neg ho] at h
      exact ⟨Nat.lt_succ_of_lt (ih y h).1, (ih y h).2⟩
def nrB (l : Lnd) (A : Scn) (c : Nat) : Option Nat := bstF (fun _ => true) (fun x y => decide (far (lw l) (cel A x) c < far (lw l) (cel A y) c)) (lb l)
def fulB (l : Lnd) (A : Scn) (g : Nat) : Option Nat := bstF (fun x => held A x && !g.testBit x) (fun x y => decide (A 6 y < A 6 x)) (lb l)
def crsP (l : Lnd) (A : Scn) : Option Nat := bstF (fun _ => true) (fun x y => decide (A 1 y < A 1 x)) (lp l)
section TL
variable {l : Lnd} {S : St} {E : zX} {d q : Nat} {A : Scn}
theorem c_whites {Q : Int32 → St → Prop} (hd : 1 ≤ d) (hL : LC l S) (hq : Sc q) (hA : ScC l (S (q + 1)) A) (h : Q (nI (whtM l A)) S) : k_Downs_whites E d S q Q := by
  have b10 := hL.ok.b10
  refine w_Downs_whites hd hq ?_
  refine dn (P := fun k => k_Downs_whites_4 E d S q (nI (mkN (fun x => decide (A 6 x = 0)) k)) k Q) (lb l) ?_ ?_ 0 (Nat.zero_le _)
  · exact w_Downs_whites_4 hd hq (ilp (lb l) hL.b (by omega) (by omega) (fun _ => h) (fun h => absurd h (Nat.lt_irrefl _)))
  · intro k hk ih
    refine w_Downs_whites_4 hd hq (ilp (lb l) hL.b (by omega) (by omega) (fun h => by omega) (fun _ => ?_))
    refine c_isWhite hL.ok hq hA hk (izb (fun e => ?_) (fun e => ?_))
    · rw [mkN_or (by omega) (decide_eq_true e)]
      exact ih
    · rw [mkN_no (decide_eq_false e)]
      exact ih
theorem c_ownedBy {v : Int32} {Q : Int32 → St → Prop} (hd : 1 ≤ d) (hL : LC l S) (hq : Sc q) (hA : ScC l (S (q + 1)) A) (h : Q (nI (ownM l A v)) S) : k_Downs_ownedBy E d S q v Q := by
  have b10 := hL.ok.b10
  refine w_Downs_ownedBy hd hq ?_
  refine dn (P := fun k => k_Downs_ownedBy_5 E d S q v (nI (mkN (fun x => decide (A 8 x = v)) k)) k Q) (lb l) ?_ ?_ 0 (Nat.zero_le _)
  · exact w_Downs_ownedBy_5 hd hq (ilp (lb l) hL.b (by omega) (by omega) (fun _ => h) (fun h => absurd h (Nat.lt_irrefl _)))
  · intro k hk ih
    refine w_Downs_ownedBy_5 hd hq (ilp (lb l) hL.b (by omega) (by omega) (fun h => by omega) (fun _ => ?_))
    refine c_ownerOf hL.ok hq hA hk (ife (fun e => ?_) (fun e => ?_))
    · rw [mkN_or (by omega) (decide_eq_true e)]
      exact ih
    · rw [mkN_no (decide_eq_false e)]
      exact ih
theorem c_over {c : Nat} {Q : Int32 → St → Prop} (hd : 2 ≤ d) (hL : LC l S) (hq : Sc q) (hA : ScC l (S (q + 1)) A) (hO : COk l A) (hc : c < lw l * lh l) (h : Q (nI (ovrM l A c)) S) : k_Downs_over E d S q (nI c) Q := by
  have b10 := hL.ok.b10
  refine w_Downs_over (by omega) hq ?_
  refine dn (P := fun k => k_Downs_over_5 E d S q c (nI (mkN (fun x => held A x && rch l A x c) k)) k Q) (lb l) ?_ ?_ 0 (Nat.zero_le _)
  · exact w_Downs_over_5 (by omega) hq (ilp (lb l) hL.b (by omega) (by omega) (fun _ => h) (fun h => absurd h (Nat.lt_irrefl _)))
  · intro k hk ih
    refine w_Downs_over_5 (by omega) hq (ilp (lb l) hL.b (by omega) (by omega) (fun h => by omega) (fun _ => ?_))
    refine c_isWhite hL.ok hq hA hk (izb (fun e => ?_) (fun e => ?_))
    · rw [mkN_no (by simp [held, e])]
      exact ih
    · refine c_reaches (by omega) hL hq hA hO hk rfl hc (izb (fun r => ?_) (fun r => ?_))
      · rw [mkN_or (by omega) (by rw [r]; simp [held, e])]
        exact ih
      · rw [mkN_no (by simp [r])]
        exact ih
theorem c_heldByAll {Q : Int32 → St → Prop} (hd : 1 ≤ d) (hL : LC l S) (hq : Sc q) (hA : ScC l (S (q + 1)) A) (h : Q (smK A 6 (lb l)) S) : k_Downs_heldByAll E d S q Q := by
  have b10 := hL.ok.b10
  refine w_Downs_heldByAll hd hq ?_
  refine dn (P := fun k => k_Downs_heldByAll_4 E d S q (smK A 6 k) k Q) (lb l) ?_ ?_ 0 (Nat.zero_le _)
  · exact w_Downs_heldByAll_4 hd hq (ilp (lb l) hL.b (by omega) (by omega) (fun _ => h) (fun h => absurd h (Nat.lt_irrefl _)))
  · intro k hk ih
    refine w_Downs_heldByAll_4 hd hq (ilp (lb l) hL.b (by omega) (by omega) (fun h => by omega) (fun _ => ?_))
    exact c_heldIn hL.ok hq hA hk ih
theorem c_temperOfAll {Q : Int32 → St → Prop} (hd : 1 ≤ d) (hL : LC l S) (hq : Sc q) (hA : ScC l (S (q + 1)) A) (h : Q (smK A 1 (lp l)) S) : k_Downs_temperOfAll E d S q Q := by
  have b10 := hL.ok.p7
  refine w_Downs_temperOfAll hd hq ?_
  refine dn (P := fun k => k_Downs_temperOfAll_4 E d S q (smK A 1 k) k Q) (lp l) ?_ ?_ 0 (Nat.zero_le _)
  · exact w_Downs_temperOfAll_4 hd hq (ilp (lp l) hL.p (by omega) (by omega) (fun _ => h) (fun h => absurd h (Nat.lt_irrefl _)))
  · intro k hk ih
    refine w_Downs_temperOfAll_4 hd hq (ilp (lp l) hL.p (by omega) (by omega) (fun h => by omega) (fun _ => ?_))
    exact c_temperOf hL.ok hq hA hk ih
theorem c_shoutedByAll {Q : Int32 → St → Prop} (hd : 1 ≤ d) (hL : LC l S) (hq : Sc q) (hA : ScC l (S (q + 1)) A) (h : Q (smK A 2 (lp l)) S) : k_Downs_shoutedByAll E d S q Q := by
  have b10 := hL.ok.p7
  refine w_Downs_shoutedByAll hd hq ?_
  refine dn (P := fun k => k_Downs_shoutedByAll_4 E d S q (smK A 2 k) k Q) (lp l) ?_ ?_ 0 (Nat.zero_le _)
  · exact w_Downs_shoutedByAll_4 hd hq (ilp (lp l) hL.p (by omega) (by omega) (fun _ => h) (fun h => absurd h (Nat.lt_irrefl _)))
  · intro k hk ih
    refine w_Downs_shoutedByAll_4 hd hq (ilp (lp l) hL.p (by omega) (by omega) (fun h => by omega) (fun _ => ?_))
    exact c_shoutedBy hL.ok hq hA hk ih
theorem c_nearestBall {c : Nat} {Q : Int32 → St → Prop} (hd : 1 ≤ d) (hL : LC l S) (hq : Sc q) (hA : ScC l (S (q + 1)) A) (hO : COk l A) (hc : c < lw l * lh l) (h : Q (oI (nrB l A c)) S) : k_Downs_nearestBall E d S q (nI c) Q := by
  have b10 := hL.ok.b10
  refine w_Downs_nearestBall (by omega) hq ?_
  refine dn (P := fun k => k_Downs_nearestBall_5 E d S q c (oI (bstF (fun _ => true) (fun x y => decide (far (lw l) (cel A x) c < far (lw l) (cel A y) c)) k)) k Q) (lb l) ?_ ?_ 0 (Nat.zero_le _)
  · exact w_Downs_nearestBall_5 (by omega) hq (ilp (lb l) hL.b (by omega) (by omega) (fun _ => h) (fun h => absurd h (Nat.lt_irrefl _)))
  · intro k hk ih
    refine w_Downs_nearestBall_5 (by omega) hq (ilp (lb l) hL.b (by omega) (by omega) (fun h => by omega) (fun _ => ?_))
    have hlt := bstF_lt (ok := fun _ => true) (lt := fun x y => decide (far (lw l) (cel A x) c < far (lw l) (cel A y) c)) k
    have ih : k_Downs_nearestBall_5 E d S q c (oI (bstS (fun _ => true) (fun x y => decide (far (lw l) (cel A x) c < far (lw l) (cel A y) c)) k (bstF (fun _ => true) (fun x y => decide (far (lw l) (cel A x) c < far (lw l) (cel A y) c)) k))) (k + 1) Q := ih
    cases hb : bstF (fun _ => true) (fun x y => decide (far (lw l) (cel A x) c < far (lw l) (cel A y) c)) k with
    | none =>
      rw [hb] at ih
      rw [if_pos (show oI none = -1 from rfl)]
      exact ih
    | some y =>
      rw [hb] at ih
      have hy := (hlt y hb).1
      rw [if_neg (show ¬ oI (some y) = -1 from oI_ne (by omega))]
      have g1 := far_lt hL.ok.w6 hL.ok.2.2.2.1 hL.ok.w1 (hO k hk).2 hc
      have g2 := far_lt hL.ok.w6 hL.ok.2.2.2.1 hL.ok.w1 (hO y (by omega)).2 hc
      refine c_cellOf hL.ok hq hA hk (c_far hL (hO k hk).1 rfl (hO k hk).2 hc (c_cellOf hL.ok hq hA (by omega) (c_far hL (hO y (by omega)).1 rfl (hO y (by omega)).2 hc ?_)))
      have e : bstS (fun _ => true) (fun x y => decide (far (lw l) (cel A x) c < far (lw l) (cel A y) c)) k (some y) = if decide (far (lw l) (cel A k) c < far (lw l) (cel A y) c) = true then some k else some y := rfl
      rw [e] at ih
      refine ife (fun hc => ?_) (fun hc => ?_)
      · rw [nI_leI (by omega) (by omega)] at hc
        rw [if_neg (by rw [decide_eq_true_eq]; omega)] at ih
        exact ih
      · rw [nI_leI (by omega) (by omega)] at hc
        rw [if_pos (by rw [decide_eq_true_eq]; omega)] at ih
        exact ih
theorem c_crossest {Q : Int32 → St → Prop} (hd : 1 ≤ d) (hL : LC l S) (hq : Sc q) (hA : ScC l (S (q + 1)) A) (h : Q (oI (crsP l A)) S) : k_Downs_crossest E d S q Q := by
  have p7 := hL.ok.p7
  refine w_Downs_crossest (by omega) hq ?_
  refine dn (P := fun k => k_Downs_crossest_4 E d S q (oI (bstF (fun _ => true) (fun x y => decide (A 1 y < A 1 x)) k)) k Q) (lp l) ?_ ?_ 0 (Nat.zero_le _)
  · exact w_Downs_crossest_4 (by omega) hq (ilp (lp l) hL.p (by omega) (by omega) (fun _ => h) (fun h => absurd h (Nat.lt_irrefl _)))
  · intro k hk ih
    refine w_Downs_crossest_4 (by omega) hq (ilp (lp l) hL.p (by omega) (by omega) (fun h => by omega) (fun _ => ?_))
    have hlt := bstF_lt (ok := fun _ => true) (lt := fun x y => decide (A 1 y < A 1 x)) k
    have ih : k_Downs_crossest_4 E d S q (oI (bstS (fun _ => true) (fun x y => decide (A 1 y < A 1 x)) k (bstF (fun _ => true) (fun x y => decide (A 1 y < A 1 x)) k))) (k + 1) Q := ih
    cases hb : bstF (fun _ => true) (fun x y => decide (A 1 y < A 1 x)) k with
    | none =>
      rw [hb] at ih
      rw [if_pos (show oI none = -1 from rfl)]
      exact ih
    | some y =>
      rw [hb] at ih
      have hy := (hlt y hb).1
      rw [if_neg (show ¬ oI (some y) = -1 from oI_ne (by omega))]
      refine c_temperOf hL.ok hq hA hk (c_temperOf hL.ok hq hA (x := y) (by omega) ?_)
      have e : bstS (fun _ => true) (fun x y => decide (A 1 y < A 1 x)) k (some y) = if decide (A 1 y < A 1 k) = true then some k else some y := rfl
      rw [e] at ih
      refine ife (fun hc => ?_) (fun hc => ?_)
      · rw [if_neg (by rw [decide_eq_true_eq]; exact Int32.not_lt.mpr hc)] at ih
        exact ih
      · rw [if_pos (by rw [decide_eq_true_eq]; exact Int32.not_le.mp hc)] at ih
        exact ih
theorem c_fullest {g : Nat} {Q : Int32 → St → Prop} (hd : 1 ≤ d) (hL : LC l S) (hq : Sc q) (hA : ScC l (S (q + 1)) A) (h : Q (oI (fulB l A g)) S) : k_Downs_fullest E d S q (nI g) Q := by
  have b10 := hL.ok.b10
  refine w_Downs_fullest (by omega) hq ?_
  refine dn (P := fun k => k_Downs_fullest_5 E d S q (nI g) (oI (bstF (fun x => held A x && !g.testBit x) (fun x y => decide (A 6 y < A 6 x)) k)) k Q) (lb l) ?_ ?_ 0 (Nat.zero_le _)
  · exact w_Downs_fullest_5 (by omega) hq (ilp (lb l) hL.b (by omega) (by omega) (fun _ => h) (fun h => absurd h (Nat.lt_irrefl _)))
  · intro k hk ih
    refine w_Downs_fullest_5 (by omega) hq (ilp (lb l) hL.b (by omega) (by omega) (fun h => by omega) (fun _ => ?_))
    have hlt := bstF_lt (ok := fun x => held A x && !g.testBit x) (lt := fun x y => decide (A 6 y < A 6 x)) k
    have ih : k_Downs_fullest_5 E d S q (nI g) (oI (bstS (fun x => held A x && !g.testBit x) (fun x y => decide (A 6 y < A 6 x)) k (bstF (fun x => held A x && !g.testBit x) (fun x y => decide (A 6 y < A 6 x)) k))) (k + 1) Q := ih
    generalize hb : bstF (fun x => held A x && !g.testBit x) (fun x y => decide (A 6 y < A 6 x)) k = b at ih hlt
    refine c_isWhite hL.ok hq hA hk (izb (fun hw => ?_) (fun hw => ?_))
    · unfold bstS at ih
      rw [if_neg (by simp [held, hw])] at ih
      exact ih
    · refine ife (fun hg => ?_) (fun hg => ?_)
      · rw [nI_tst (by omega)] at hg
        unfold bstS at ih
        rw [if_pos (by simp [held, hw, hg])] at ih
        cases b with
        | none =>
          rw [if_pos (show oI none = -1 from rfl)]
          exact ih
        | some y =>
          have hy := (hlt y rfl).1
          rw [if_neg (show ¬ oI (some y) = -1 from oI_ne (by omega))]
          have ih : k_Downs_fullest_5 E d S q (nI g) (oI (if decide (A 6 y < A 6 k) = true then some k else some y)) (k + 1) Q := ih
          refine c_heldIn hL.ok hq hA hk (c_heldIn hL.ok hq hA (x := y) (by omega) ?_)
          refine ife (fun hc => ?_) (fun hc => ?_)
          · rw [if_neg (by rw [decide_eq_true_eq]; exact Int32.not_lt.mpr hc)] at ih
            exact ih
          · rw [if_pos (by rw [decide_eq_true_eq]; exact Int32.not_le.mp hc)] at ih
            exact ih
      · rw [nI_tst (by omega)] at hg
        unfold bstS at ih
        rw [if_neg (by simp [hg])] at ih
        exact ih
/-- set off by one: bits -/
noncomputable def sobM (l : Lnd) (A : Scn) (x : Nat) : Nat := if A 6 x = 0 then 0 else clo l A (freM l A) (2 ^ x)
theorem sub_p2 {x : Nat} (hx : x < lb l) (h : ¬ A 6 x = 0) : sub (2 ^ x) (heldM l A) := fun i hi => by
  rw [Nat.testBit_two_pow] at hi
  have e : x = i := of_decide_eq_true hi
  subst e
  exact held_bit.mpr ⟨hx, decide_eq_true h⟩
theorem c_setOffBy {x : Nat} {Q : Int32 → St → Prop} (hd : 3 ≤ d) (hL : LC l S) (hq : Sc q) (hA : ScC l (S (q + 1)) A) (hO : COk l A) (hx : x < lb l) (h : ∀ S', Fr [40] S S' → (¬ A 6 x = 0 → ∀ y, y < lb l → S' 40 y = nI (lnk l A y)) → Q (nI (sobM l A x)) S') : k_Downs_setOffBy E d S q (nI x) Q := by
  have b10 := hL.ok.b10
  refine w_Downs_setOffBy (by omega) hq (c_isWhite hL.ok hq hA hx (izb (fun e => ?_) (fun e => ?_)))
  · have := h S (Fr.refl _ _) (fun h => absurd e h)
    unfold sobM at this
    rw [if_pos e] at this
    exact this
  · refine c_link (by omega) hL hq hA hO (fun S4 f4 k4 => ?_)
    have A4 : ScC l (S4 (q + 1)) A := by
      rw [row_of hq f4 (fun k hk => by simp only [List.mem_cons, List.not_mem_nil, or_false] at hk; omega)]
      exact hA
    have := h S4 f4 (fun _ => k4)
    unfold sobM at this
    rw [if_neg e] at this
    rw [bt_eq x (by omega)]
    exact c_guards hq A4 (c_chainG (LC_dl hq hL (fr_40 f4)) k4 _ (sub_p2 hx e) this)
end TL
