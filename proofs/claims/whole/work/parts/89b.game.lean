/-! A GAME OF TWO: what days do to shouts and to what was heard -/
section D23
variable {l : Lnd} {A : Scn}
theorem pd_sh (p : Nat) (r : Scn × Nat × Nat) (q : Nat) : ((pday l p r).1 2 q = r.1 2 q ∧ (pday l p r).2.2 = r.2.2) ∨ ((pday l p r).1 2 q = r.1 2 q + zb (q = p) ∧ (pday l p r).2.2 = r.2.2 ||| 2 ^ p) := by
  unfold pday
  simp only
  have e0 : ua r.1 1 p (m99 (r.1 1 p + rise l r.1 p)) 2 = r.1 2 := ua_ne _ _ _ (by omega)
  generalize ua r.1 1 p (m99 (r.1 1 p + rise l r.1 p)) = B at e0 ⊢
  split
  · exact Or.inl ⟨by rw [← e0], rfl⟩
  · unfold goO
    cases nw l B p with
    | none =>
      refine Or.inr ⟨?_, rfl⟩
      show ua (ua B 2 p (B 2 p + 1)) 1 p (B 1 p / 2) 2 q = r.1 2 q + zb (q = p)
      rw [ua_ne _ _ _ (by omega), ua_same, ← e0]
      by_cases e : q = p
      · rw [zb_t e, e, upd_same]
      · rw [zb_f e, upd_ne _ _ e, Int32.add_zero]
    | some x =>
      refine Or.inl ⟨?_, rfl⟩
      show ua (fill B x (B 1 p) (nI p)) 1 p 0 2 q = r.1 2 q
      unfold fill
      rw [ua_ne _ _ _ (by omega), ua_ne _ _ _ (by omega), ua_ne _ _ _ (by omega), ua_ne _ _ _ (by omega), ← e0]
theorem ps_sh : ∀ n q, (zfo (pday l) n (A, 0, 0)).1 2 q = A 2 q + zb ((zfo (pday l) n (A, 0, 0)).2.2.testBit q = true) ∧ (n ≤ q → (zfo (pday l) n (A, 0, 0)).2.2.testBit q = false)
  | 0, q => by
    refine ⟨?_, fun _ => Nat.zero_testBit q⟩
    show A 2 q = A 2 q + zb ((0 : Nat).testBit q = true)
    rw [zb_f (by rw [Nat.zero_testBit]; decide), Int32.add_zero]
  | n + 1, q => by
    have ih := ps_sh n q
    show (pday l n (zfo (pday l) n (A, 0, 0))).1 2 q = A 2 q + zb ((pday l n (zfo (pday l) n (A, 0, 0))).2.2.testBit q = true) ∧ (n + 1 ≤ q → (pday l n (zfo (pday l) n (A, 0, 0))).2.2.testBit q = false)
    generalize zfo (pday l) n (A, 0, 0) = r at ih ⊢
    rcases pd_sh (l := l) n r q with ⟨h1, h2⟩ | ⟨h1, h2⟩
    · rw [h1, h2]
      exact ⟨ih.1, fun h => ih.2 (by omega)⟩
    · rw [h1, h2, ih.1, Nat.testBit_or, Nat.testBit_two_pow]
      by_cases e : q = n
      · have hf := ih.2 (by omega)
        rw [hf, zb_f (by decide), zb_t e, Int32.add_zero, decide_eq_true e.symm, zb_t (show (false || true) = true from rfl)]
        exact ⟨rfl, fun h => by omega⟩
      · rw [zb_f e, Int32.add_zero, decide_eq_false (fun h => e h.symm), Bool.or_false]
        exact ⟨rfl, fun h => ih.2 (by omega)⟩
theorem dayB {k : Nat} (hk : k ≠ 0) : (dayF l A).1 k = (bst l (ages l (zfo (pday l) (lp l) (A, 0, 0)).1) (ripM l (ages l (zfo (pday l) (lp l) (A, 0, 0)).1))).1 k := by
  unfold dayF
  show ua _ 0 0 _ k = _
  rw [ua_ne _ _ _ hk]
theorem day_2 (q : Nat) : (dayF l A).1 2 q = A 2 q + zb ((dayF l A).2.2.1.testBit q = true) := by
  have h := (ps_sh (l := l) (A := A) (lp l) q).1
  have e : (dayF l A).1 2 = (zfo (pday l) (lp l) (A, 0, 0)).1 2 := by
    rw [dayB (by decide), bstK (by omega)]
    unfold ages
    rw [agesK (by omega)]
  rw [e, show (dayF l A).2.2.1 = (zfo (pday l) (lp l) (A, 0, 0)).2.2 from rfl]
  exact h
/-- what one hears more by a day: a few, up to 9999 -/
def hrd (h h' : Int32) : Prop := h' = h ∨ ∃ k, k ≤ 10 ∧ h' = m9999 (h + nI k)
def hrF (l : Lnd) (T p : Nat) (A : Scn) : Scn := hear A p (nI (nhr l A T p (lb l)))
theorem hrF_3 (hl : LOk l) (T q : Nat) : ∀ n, hrd (A 3 q) (zfo (hrF l T) n A 3 q) ∧ (n ≤ q → zfo (hrF l T) n A 3 q = A 3 q)
  | 0 => ⟨Or.inl rfl, fun _ => rfl⟩
  | n + 1 => by
    have ih := hrF_3 hl T q n
    rw [show zfo (hrF l T) (n + 1) A = hrF l T n (zfo (hrF l T) n A) from rfl]
    generalize zfo (hrF l T) n A = B at ih
    have b10 := hl.b10
    have nl := nhr_le (l := l) (A := B) (T := T) (p := n) (lb l)
    unfold hrF hear
    rw [ua_ne _ _ _ (by omega), ua_same]
    by_cases e : q = n
    · rw [e, upd_same]
      rw [e] at ih
      rw [ih.2 (Nat.le_refl _)]
      exact ⟨Or.inr ⟨_, by omega, rfl⟩, fun h => by omega⟩
    · rw [upd_ne _ _ e]
      exact ⟨ih.1, fun h => ih.2 (by omega)⟩
theorem fil_3 (T : Nat) (B : Scn) (n : Nat) : zfo (fun x A => if T.testBit x then fill A x 0 (-1) else A) n B 3 = B 3 := zfo_inv (P := fun A' : Scn => A' 3 = B 3) (fun j A' _ h => by
  show (if T.testBit j then fill A' j 0 (-1) else A') 3 = B 3
  split
  · unfold fill
    rw [ua_ne _ _ _ (by omega), ua_ne _ _ _ (by omega), ua_ne _ _ _ (by omega)]
    exact h
  · exact h) rfl
theorem goF_3 (hl : LOk l) (T q : Nat) : hrd (A 3 q) (goF l A T 3 q) := by
  have e : goF l A T 3 = zfo (hrF l T) (lp l) A 3 := by
    unfold goF
    rw [fil_3]
    rfl
  rw [e]
  exact (hrF_3 hl T q (lp l)).1
theorem day_3 (hl : LOk l) (q : Nat) : hrd (A 3 q) ((dayF l A).1 3 q) := by
  have e3 : (zfo (pday l) (lp l) (A, 0, 0)).1 3 = A 3 := zfo_inv (P := fun r : Scn × Nat × Nat => r.1 3 = A 3) (fun p r _ h => by
    show (pday l p r).1 3 = A 3
    unfold pday
    simp only
    have e0 : ua r.1 1 p (m99 (r.1 1 p + rise l r.1 p)) 3 = r.1 3 := ua_ne _ _ _ (by omega)
    generalize ua r.1 1 p (m99 (r.1 1 p + rise l r.1 p)) = B at e0 ⊢
    split
    · exact e0.trans h
    · unfold goO
      cases nw l B p with
      | none =>
        show ua (ua B 2 p (B 2 p + 1)) 1 p (B 1 p / 2) 3 = A 3
        rw [ua_ne _ _ _ (by omega), ua_ne _ _ _ (by omega)]
        exact e0.trans h
      | some x =>
        show ua (fill B x (B 1 p) (nI p)) 1 p 0 3 = A 3
        unfold fill
        rw [ua_ne _ _ _ (by omega), ua_ne _ _ _ (by omega), ua_ne _ _ _ (by omega), ua_ne _ _ _ (by omega)]
        exact e0.trans h) rfl
  rw [dayB (by decide)]
  have e4 : ages l (zfo (pday l) (lp l) (A, 0, 0)).1 3 = A 3 := by
    unfold ages
    rw [agesK (by omega)]
    exact e3
  generalize ages l (zfo (pday l) (lp l) (A, 0, 0)).1 = B at e4 ⊢
  rw [← e4]
  unfold bst
  split
  · exact Or.inl rfl
  · exact goF_3 hl _ q
/-- some days: shouts -/
theorem dayN_2 (q : Nat) : ∀ n, ∃ k, k ≤ n ∧ dayN l A n 2 q = A 2 q + nI k
  | 0 => ⟨0, Nat.le_refl _, (Int32.add_zero _).symm⟩
  | n + 1 => by
    obtain ⟨k, hk, e⟩ := dayN_2 q n
    show ∃ k, k ≤ n + 1 ∧ (dayF l (dayN l A n)).1 2 q = A 2 q + nI k
    rw [day_2, e]
    rcases zb01 ((dayF l (dayN l A n)).2.2.1.testBit q = true) with h | h
    · rw [h, Int32.add_zero]
      exact ⟨k, by omega, rfl⟩
    · rw [h, Int32.add_assoc, nI_1]
      exact ⟨k + 1, by omega, rfl⟩
/-- what was heard by some days: more by a number, or 9999 from near below or above -/
def hrn (N : Nat) (h h' : Int32) : Prop := (∃ k, k ≤ N ∧ h' = h + nI k) ∨ (h' = 9999 ∧ (9999 : Int) - N ≤ h.toInt)
theorem nI_tI {n : Nat} (h : n < 2 ^ 31) : (nI n).toInt = (n : Int) := nI_toInt h
theorem add_tI {h : Int32} {k : Nat} (hk : k < 1000000) : (h + nI k).toInt = h.toInt + k ∨ (h + nI k).toInt = h.toInt + k - 4294967296 := by
  have e := Int32.toInt_add h (nI k)
  rw [nI_tI (by omega)] at e
  have b1 := Int32.toInt_lt h
  have b2 := Int32.le_toInt h
  rw [e]
  by_cases c : h.toInt + (k : Int) < 2147483648
  · left
    rw [Int.bmod_eq_of_le (by omega) (by omega)]
  · right
    have : (h.toInt + (k : Int)).bmod (2 ^ 32) = (h.toInt + (k : Int) - 4294967296).bmod (2 ^ 32) := (Int.sub_bmod_right (h.toInt + (k : Int)) (2 ^ 32)).symm
    rw [this, Int.bmod_eq_of_le (by omega) (by omega)]
theorem hrn_step {N : Nat} {h h' h'' : Int32} (hN : N < 900000) (g : hrn N h h') (s : hrd h' h'') : hrn (N + 10) h h'' := by
  rcases s with s | ⟨k, hk, s⟩
  · rw [s]
    rcases g with ⟨j, hj, e⟩ | ⟨e, hh⟩
    · exact Or.inl ⟨j, by omega, e⟩
    · exact Or.inr ⟨e, by omega⟩
  · rcases g with ⟨j, hj, e⟩ | ⟨e, hh⟩
    · rw [e, Int32.add_assoc, nI_add] at s
      unfold m9999 at s
      by_cases c : 9999 < h + nI (j + k)
      · rw [if_pos c] at s
        refine Or.inr ⟨s, ?_⟩
        rw [Int32.lt_iff_toInt_lt] at c
        have c : (9999 : Int) < (h + nI (j + k)).toInt := c
        have b1 := Int32.toInt_lt h
        rcases add_tI (h := h) (k := j + k) (by omega) with q | q <;> omega
      · rw [if_neg c] at s
        exact Or.inl ⟨j + k, by omega, s⟩
    · refine Or.inr ⟨?_, by omega⟩
      rw [e, show (9999 : Int32) = nI 9999 from rfl, nI_add] at s
      unfold m9999 at s
      by_cases c : k = 0
      · rw [c, if_neg (show ¬ (9999 : Int32) < nI (9999 + 0) from Int32.lt_irrefl)] at s
        exact s
      · rw [if_pos (show (9999 : Int32) < nI (9999 + k) from nI_lt (a := 9999) (by omega) (by omega))] at s
        exact s
theorem dayN_3 (hl : LOk l) (q : Nat) : ∀ n, n < 1000 → hrn (10 * n) (A 3 q) (dayN l A n 3 q)
  | 0, _ => Or.inl ⟨0, Nat.le_refl _, (Int32.add_zero _).symm⟩
  | n + 1, hn => hrn_step (N := 10 * n) (by omega) (dayN_3 hl q n (by omega)) (day_3 hl q)
/-- what one chose -/
def gch (l : Lnd) (B : Scn) (p c : Nat) : Scn := if c = 1 then (match goO l B p with
  | some B' => B'
  | none => B) else B
theorem gchK {B : Scn} {p c k : Nat} (hk : k ≠ 1 ∧ k ≠ 6 ∧ k ≠ 7 ∧ k ≠ 8) : gch l B p c k = B k := by
  unfold gch goO
  split
  · cases nw l B p with
    | none => rfl
    | some x =>
      show ua (fill B x (B 1 p) (nI p)) 1 p 0 k = B k
      unfold fill
      rw [ua_ne _ _ _ (by omega), ua_ne _ _ _ (by omega), ua_ne _ _ _ (by omega), ua_ne _ _ _ (by omega)]
  · rfl
def gm0 (l : Lnd) (A : Scn) (p o x y : Nat) : Scn := if p < o then gch l (gch l A p x) o y else gch l (gch l A o y) p x
theorem gm0K {p o x y k : Nat} (hk : k ≠ 1 ∧ k ≠ 6 ∧ k ≠ 7 ∧ k ≠ 8) : gm0 l A p o x y k = A k := by
  unfold gm0
  split
  · rw [gchK hk, gchK hk]
  · rw [gchK hk, gchK hk]
theorem gm0_sym {p o x y : Nat} (h : ¬ p = o) : gm0 l A p o x y = gm0 l A o p y x := by
  unfold gm0
  by_cases e : p < o
  · rw [if_pos e, if_neg (by omega)]
  · rw [if_neg e, if_pos (by omega)]
noncomputable def gm (l : Lnd) (A : Scn) (p o x y : Nat) : Scn := dayN l (gm0 l A p o x y) 10
theorem gm_sym {p o x y : Nat} (h : ¬ p = o) : gm l A p o x y = gm l A o p y x := by
  unfold gm
  rw [gm0_sym h]
/-- what one loses -/
def los (A B : Scn) (p c : Nat) : Int32 := (((4 : Int32) * (B 2 p - A 2 p) + B 3 p) - A 3 p) + (2 : Int32) * nI c
theorem alc (a b c : Int32) : a + (b + c) = b + (a + c) := by rw [← Int32.add_assoc, Int32.add_comm a b, Int32.add_assoc]
theorem los_bd0 {A B : Scn} {q c k : Nat} (hc : c ≤ 1) (hk : k ≤ 10) (e2 : B 2 q = A 2 q + nI k) (e3 : hrn 100 (A 3 q) (B 3 q)) : (-2147483648 : Int) < (los A B q c).toInt := by
  have s : los A B q c = nI (4 * k + 2 * c) + (B 3 q - A 3 q) := by
    unfold los
    rw [e2, show A 2 q + nI k - A 2 q = nI k from by rw [Int32.add_comm, Int32.add_sub_cancel], show (4 : Int32) = nI 4 from rfl, pk_mul, show (2 : Int32) = nI 2 from rfl, pk_mul, ← nI_add, Int32.sub_eq_add_neg, Int32.sub_eq_add_neg]
    simp only [Int32.add_assoc, Int32.add_comm, alc]
  rw [s]
  rcases e3 with ⟨j, hj, e⟩ | ⟨e, hh⟩
  · rw [e, show A 3 q + nI j - A 3 q = nI j from by rw [Int32.add_comm, Int32.add_sub_cancel], nI_add, nI_tI (by omega)]
    omega
  · rw [e, show (9999 : Int32) = nI 9999 from rfl, Int32.sub_eq_add_neg, ← Int32.add_assoc, nI_add, ← Int32.sub_eq_add_neg]
    have b1 := Int32.toInt_lt (A 3 q)
    have e5 := Int32.toInt_sub (nI (4 * k + 2 * c + 9999)) (A 3 q)
    rw [nI_tI (by omega)] at e5
    rw [e5, Int.bmod_eq_of_le (by omega) (by omega)]
    omega
theorem los_bd (hl : LOk l) {p o x y q c : Nat} (hc : c ≤ 1) : (-2147483648 : Int) < (los A (gm l A p o x y) q c).toInt := by
  obtain ⟨k, hk, e2⟩ := dayN_2 (l := l) (A := gm0 l A p o x y) q 10
  have e3 := dayN_3 (A := gm0 l A p o x y) hl q 10 (by omega)
  rw [gm0K (by omega)] at e2 e3
  exact los_bd0 hc hk e2 e3
theorem neg_lt {a b : Int32} (ha : (-2147483648 : Int) < a.toInt) (hb : (-2147483648 : Int) < b.toInt) : (-a < -b) ↔ b < a := by
  have a1 := Int32.toInt_lt a
  have b1 := Int32.toInt_lt b
  rw [Int32.lt_iff_toInt_lt, Int32.lt_iff_toInt_lt, Int32.toInt_neg, Int32.toInt_neg, Int.bmod_eq_of_le (by omega) (by omega), Int.bmod_eq_of_le (by omega) (by omega)]
  omega
theorem gain_eq (a a' h h' c : Int32) : ((((4 : Int32) * (a - a')) + h) - h') - (2 : Int32) * c = -(((((4 : Int32) * (a' - a)) + h') - h) + (2 : Int32) * c) := by
  have e : (4 : Int32) * (a - a') = -((4 : Int32) * (a' - a)) := by rw [← Int32.mul_neg, Int32.neg_sub]
  rw [e]
  generalize (4 : Int32) * (a' - a) = u
  generalize (2 : Int32) * c = v
  simp only [Int32.sub_eq_add_neg, Int32.neg_add, Int32.neg_neg]
  simp only [Int32.add_assoc, Int32.add_comm, alc]
end D23
def gRst (l : Lnd) (L1 L2 : Nat → Nat → Int32) (c : Nat) : Bool := !decide (L1 (1 - c / 2) (c % 2) < L1 (c / 2) (c % 2)) && !decide (L2 (c / 2) (1 - c % 2) < L2 (c / 2) (c % 2))
noncomputable def gRs (G : Gst) (p o c : Nat) : Bool := gRst (gl G) (fun x y => los (gA G) (gm (gl G) (gA G) p o x y) p x) (fun x y => los (gA G) (gm (gl G) (gA G) p o x y) o y) c
def cGame (G : Gst) (a b c : Int32) : Nat := cd3 (ng (lp (gl G)) a || ng (lp (gl G)) b) (ng 2 c) (decide (a = b))
noncomputable def vGame (G : Gst) (a b c : Int32) : Int32 := if gA G 1 (tN a) = 0 ∨ gA G 1 (tN b) = 0 then -1 else if c = 0 then nI (num (gRs G (tN a) (tN b)) 4) else match fstF (gRs G (tN a) (tN b)) 4 with
  | none => -1
  | some k => nI (10 * (k / 2) + k % 2)
section GMC
variable {l : Lnd} {S : St} {E : zX} {d : Nat} {A B : Scn}
theorem c_choose1 {p c : Nat} {Q : St → Prop} (hd : 3 ≤ d) (hL : LC l S) (hB : ScC l (S 62) B) (hO : COk l B) (hp : p < lp l) (hc : c ≤ 1) (h : ∀ S' : St, Fr [62] S S' → ScC l (S' 62) (gch l B p c) → Q S') : k_Chance_choose E d S (nI p) (nI c) Q := by
  refine w_Chance_choose (by omega) ?_
  unfold gch at h
  refine ife (fun e => ?_) (fun e => ?_)
  · have e : nI c = nI 1 := e
    rw [nI_eq (by omega) (by omega)] at e
    rw [if_pos e] at h
    refine c_goOut (q := 61) (by omega) hL sc61 hB hO hp (fun A' hA' S' f A2 => ?_) (fun hn => ?_)
    · rw [hA'] at h
      exact h S' f A2
    · rw [hn] at h
      exact h S (Fr.refl _ _) hB
  · have e : ¬ nI c = nI 1 := e
    rw [nI_eq (by omega) (by omega)] at e
    rw [if_neg e] at h
    exact h S (Fr.refl _ _) hB
theorem c_lossOf {p : Nat} {Q : Int32 → St → Prop} (hd : 1 ≤ d) (hl : LOk l) (hA : ScC l (S 26) A) (hB : ScC l (S 62) B) (hp : p < lp l) (h : Q (((4 : Int32) * (B 2 p - A 2 p) + B 3 p) - A 3 p) S) : k_Chance_lossOf E d S (nI p) Q :=
  w_Chance_lossOf hd (c_shoutedBy hl sc61 hB hp (c_shoutedBy hl sc25 hA hp (c_heardBy hl sc61 hB hp (c_heardBy hl sc25 hA hp h))))
theorem shc1 : ∀ c, c < 4 → nI c >>> ((1 : Int32) &&& 31) = nI (c / 2) ∧ nI c &&& (1 : Int32) = nI (c % 2) := by decide +kernel
theorem c_play {p o : Nat} {Q : St → Prop} (hd : 7 ≤ d) (hL : LC l S) (hA : ScC l (S 26) A) (hO : COk l A) (hp : p < lp l) (ho : o < lp l) (h : ∀ S' : St, Fr [62, 63, 64, 39, 40, 41, 42] S S' → (∀ c, c < 4 → S' 63 c = los A (gm l A p o (c / 2) (c % 2)) p (c / 2) ∧ S' 64 c = los A (gm l A p o (c / 2) (c % 2)) o (c % 2)) → Q S') : k_Chance_play E d S (nI p) (nI o) Q := by
  have p7 := hL.ok.p7
  have lc : ∀ S' : St, Fr [62, 63, 64, 39, 40, 41, 42] S S' → LC l S' := fun S' f => LC_fr hL (fun k h1 h2 => f k (by simp only [List.mem_cons, List.not_mem_nil, or_false]; omega))
  have sc : ∀ S' : St, Fr [62, 63, 64, 39, 40, 41, 42] S S' → ScC l (S' 26) A := fun S' f => by
    rw [f 26 (by decide)]
    exact hA
  refine w_Chance_play (by omega) ?_
  refine dn (P := fun k => ∀ S' : St, Fr [62, 63, 64, 39, 40, 41, 42] S S' → (∀ c, c < k → S' 63 c = los A (gm l A p o (c / 2) (c % 2)) p (c / 2) ∧ S' 64 c = los A (gm l A p o (c / 2) (c % 2)) o (c % 2)) → k_Chance_play_2 E d S' p o k Q) 4 ?_ ?_ 0 (Nat.zero_le _) S (Fr.refl _ _) (fun c hc => absurd hc (Nat.not_lt_zero c))
  · intro S' f hv
    refine w_Chance_play_2 (by omega) ?_
    rw [if_pos (Int32.le_refl _)]
    exact h S' f hv
  · intro k hk ih S' f hv
    refine w_Chance_play_2 (by omega) ?_
    rw [if_neg (nI_ge hk (by omega)), (shc1 k hk).1, (shc1 k hk).2]
    have days : ∀ S2 : St, Fr [62, 39, 40, 41, 42] S' S2 → ScC l (S2 62) (gm0 l A p o (k / 2) (k % 2)) → k_Chance_play_67 E d S2 p o k (nI (k / 2)) (nI (k % 2)) 0 Q := by
      intro S2 f2 A2
      have O0 : COk l (gm0 l A p o (k / 2) (k % 2)) := COk_of hO (gm0K (by omega))
      refine dn (P := fun n => ∀ S3 : St, Fr [62, 39, 40, 41, 42] S' S3 → ScC l (S3 62) (dayN l (gm0 l A p o (k / 2) (k % 2)) n) → k_Chance_play_67 E d S3 p o k (nI (k / 2)) (nI (k % 2)) n Q) 10 ?_ ?_ 0 (Nat.zero_le _) S2 f2 A2
      · intro S3 f3 A3
        have F3 : Fr [62, 63, 64, 39, 40, 41, 42] S S3 := f.trans (f3.mono (by decide))
        refine w_Chance_play_67 (by omega) ?_
        rw [if_pos (Int32.le_refl _)]
        refine c_lossOf (by omega) hL.ok (sc S3 F3) A3 hp ⟨hk, fun S4 e4 => ?_⟩
        have F4 : Fr [62, 63, 64, 39, 40, 41, 42] S S4 := F3.trans (by rw [e4]; exact Fr.up _ _ (by decide))
        have A4 : ScC l (S4 62) (dayN l (gm0 l A p o (k / 2) (k % 2)) 10) := by
          rw [e4, up_ne _ _ _ (by decide)]
          exact A3
        refine c_lossOf (by omega) hL.ok (sc S4 F4) A4 ho ⟨hk, fun S5 e5 => ?_⟩
        refine ih S5 (F4.trans (by rw [e5]; exact Fr.up _ _ (by decide))) (fun c hc => ?_)
        by_cases e : c = k
        · rw [e]
          refine ⟨?_, ?_⟩
          · rw [e5, up_ne _ _ _ (by decide), e4, up_same, upd_same]
            rfl
          · rw [e5, up_same, upd_same]
            rfl
        · have := hv c (by omega)
          refine ⟨?_, ?_⟩
          · rw [e5, up_ne _ _ _ (by decide), e4, up_same, upd_ne _ _ e, f3 63 (by decide)]
            exact this.1
          · rw [e5, up_same, upd_ne _ _ e, e4, up_ne _ _ _ (by decide), f3 64 (by decide)]
            exact this.2
      · intro n hn ihn S3 f3 A3
        have F3 : Fr [62, 63, 64, 39, 40, 41, 42] S S3 := f.trans (f3.mono (by decide))
        refine w_Chance_play_67 (by omega) ?_
        rw [if_neg (nI_ge hn (by omega))]
        refine c_passDay (q := 61) (by omega) (lc S3 F3) sc61 A3 (COk_dayN O0 n) (fun S4 f4 A4 _ _ _ => ?_)
        exact ihn S4 (f3.trans (f4.mono (by decide))) A4
    refine c_copy (q := 61) (q' := 25) (by omega) hL.ok sc61 sc25 (sc S' f) (fun S2 f2 A2 => ?_)
    have F2 : Fr [62, 63, 64, 39, 40, 41, 42] S S2 := f.trans (f2.mono (by decide))
    unfold gm0 at days
    refine ife (fun e => ?_) (fun e => ?_)
    · rw [nI_leI (by omega) (by omega)] at e
      rw [if_neg (by omega)] at days
      refine c_choose1 (by omega) (lc S2 F2) A2 hO ho (by omega) (fun S3 f3 A3 => ?_)
      have F3 : Fr [62, 63, 64, 39, 40, 41, 42] S S3 := F2.trans (f3.mono (by decide))
      refine c_choose1 (by omega) (lc S3 F3) A3 (COk_of hO (gchK (by omega))) hp (by omega) (fun S4 f4 A4 => ?_)
      exact days S4 (((f2.trans f3).trans f4).mono (by decide)) A4
    · rw [nI_leI (by omega) (by omega)] at e
      rw [if_pos (by omega)] at days
      refine c_choose1 (by omega) (lc S2 F2) A2 hO hp (by omega) (fun S3 f3 A3 => ?_)
      have F3 : Fr [62, 63, 64, 39, 40, 41, 42] S S3 := F2.trans (f3.mono (by decide))
      refine c_choose1 (by omega) (lc S3 F3) A3 (COk_of hO (gchK (by omega))) ho (by omega) (fun S4 f4 A4 => ?_)
      exact days S4 (((f2.trans f3).trans f4).mono (by decide)) A4
theorem xor4 : ∀ c, c < 4 → ∃ m1, m1 < 4 ∧ nI c ^^^ (2 : Int32) = nI m1 ∧ m1 / 2 = 1 - c / 2 ∧ m1 % 2 = c % 2 := by
  intro c hc
  have : c = 0 ∨ c = 1 ∨ c = 2 ∨ c = 3 := by omega
  rcases this with rfl | rfl | rfl | rfl
  · exact ⟨2, by omega, by decide, by decide, by decide⟩
  · exact ⟨3, by omega, by decide, by decide, by decide⟩
  · exact ⟨0, by omega, by decide, by decide, by decide⟩
  · exact ⟨1, by omega, by decide, by decide, by decide⟩
theorem xor1 : ∀ c, c < 4 → ∃ m1, m1 < 4 ∧ nI c ^^^ (1 : Int32) = nI m1 ∧ m1 / 2 = c / 2 ∧ m1 % 2 = 1 - c % 2 := by
  intro c hc
  have : c = 0 ∨ c = 1 ∨ c = 2 ∨ c = 3 := by omega
  rcases this with rfl | rfl | rfl | rfl
  · exact ⟨1, by omega, by decide, by decide, by decide⟩
  · exact ⟨0, by omega, by decide, by decide, by decide⟩
  · exact ⟨3, by omega, by decide, by decide, by decide⟩
  · exact ⟨2, by omega, by decide, by decide, by decide⟩
theorem c_rests {c : Nat} {L1 L2 : Nat → Nat → Int32} {Q : Int32 → St → Prop} (hc : c < 4) (hv : ∀ c, c < 4 → S 63 c = L1 (c / 2) (c % 2) ∧ S 64 c = L2 (c / 2) (c % 2)) (h : Q (if gRst l L1 L2 c then 1 else 0) S) : k_Chance_rests E d S (nI c) Q := by
  obtain ⟨m1, a1, a2, a3, a4⟩ := xor4 c hc
  obtain ⟨m2, b1, b2, b3, b4⟩ := xor1 c hc
  unfold gRst at h
  refine w_Chance_rests ⟨hc, m1, a2, a1, ?_⟩
  rw [(hv m1 a1).1, (hv c hc).1, a3, a4]
  refine ife (fun e => ?_) (fun e => ⟨hc, m2, b2, b1, ?_⟩)
  · rw [decide_eq_true e] at h
    exact h
  · rw [decide_eq_false e] at h
    rw [(hv m2 b1).2, (hv c hc).2, b3, b4]
    refine ife (fun e => ?_) (fun e => ?_)
    · rw [decide_eq_true e] at h
      exact h
    · rw [decide_eq_false e] at h
      exact h
theorem c_resting {L1 L2 : Nat → Nat → Int32} {Q : Int32 → St → Prop} (hd : 1 ≤ d) (hv : ∀ c, c < 4 → S 63 c = L1 (c / 2) (c % 2) ∧ S 64 c = L2 (c / 2) (c % 2)) (h : Q (nI (num (gRst l L1 L2) 4)) S) : k_Chance_resting E d S Q := by
  refine w_Chance_resting hd ?_
  refine dn (P := fun k => k_Chance_resting_4 E d S (num (gRst l L1 L2) k) k Q) 4 ?_ ?_ 0 (Nat.zero_le _)
  · refine w_Chance_resting_4 hd ?_
    rw [if_pos (Int32.le_refl _)]
    exact h
  · intro k hk ih
    refine w_Chance_resting_4 hd ?_
    rw [if_neg (nI_ge hk (by omega))]
    refine c_rests (l := l) hk hv ?_
    rw [num_succ] at ih
    cases hg : gRst l L1 L2 k with
    | true =>
      rw [hg] at ih
      rw [if_neg (show ¬ (if true = true then (1 : Int32) else 0) = 0 by decide)]
      exact ih
    | false =>
      rw [hg] at ih
      rw [if_pos (show (if false = true then (1 : Int32) else 0) = 0 by decide)]
      exact ih
theorem c_firstResting {L1 L2 : Nat → Nat → Int32} {Q : Int32 → St → Prop} (hd : 1 ≤ d) (hv : ∀ c, c < 4 → S 63 c = L1 (c / 2) (c % 2) ∧ S 64 c = L2 (c / 2) (c % 2)) (h : Q (match fstF (gRst l L1 L2) 4 with
    | none => -1
    | some k => nI (10 * (k / 2) + k % 2)) S) : k_Chance_firstResting E d S Q := by
  refine w_Chance_firstResting hd ?_
  refine dn (P := fun k => (∀ j, j < k → gRst l L1 L2 j = false) → k_Chance_firstResting_2 E d S k Q) 4 ?_ ?_ 0 (Nat.zero_le _) (fun j hj => absurd hj (Nat.not_lt_zero j))
  · intro hno
    rw [fstF_none 4 hno] at h
    refine w_Chance_firstResting_2 hd ?_
    rw [if_pos (Int32.le_refl _)]
    exact h
  · intro k hk ih hno
    refine w_Chance_firstResting_2 hd ?_
    rw [if_neg (nI_ge hk (by omega))]
    refine c_rests (l := l) hk hv ?_
    cases hg : gRst l L1 L2 k with
    | true =>
      rw [fstF_some hg hno 4 hk] at h
      rw [if_neg (show ¬ (if true = true then (1 : Int32) else 0) = 0 by decide), (shc1 k hk).1, (shc1 k hk).2, show (10 : Int32) = nI 10 from rfl, pk_mul, nI_add]
      exact h
    | false =>
      rw [if_pos (show (if false = true then (1 : Int32) else 0) = 0 by decide)]
      refine ih (fun j hj => ?_)
      by_cases e : j = k
      · rw [e]
        exact hg
      · exact hno j (by omega)
end GMC
section GMX
variable {G : Gst} {S : St} {E : zX} {d : Nat} {Q : Int32 → St → Prop} {X : Nat → St → Prop}
theorem x_game {a b c : Int32} (hd : 20 ≤ d) (hG : GInv G) (hR : RelC G S) (hn : (S 1000 0).toNatClampNeg < 1000000) (h : cGame G a b c = 0 → ∀ S', QC S S' → Q (vGame G a b c) S') (hX : ∀ k, cGame G a b c = k + 1 → X k (upT S)) : k_x_game E d S a b c Q X := by
  have p7 := hG.1.p7
  refine w_x_game (by omega) (n_person (by omega) hR.lc hn (fun p hp ea => ?_) (fun e => hX 0 (by unfold cGame cd3; rw [e]; rfl)))
  subst ea
  have e1 := ng_f (n := lp (gl G)) (x := p) (by omega) hp
  refine n_person (by omega) hR.lc hn (fun o ho eb => ?_) (fun e => hX 0 (by unfold cGame cd3; rw [e1, e]; rfl))
  subst eb
  have e2 := ng_f (n := lp (gl G)) (x := o) (by omega) ho
  refine n_what (n := 1) (by omega) (by omega) hn (fun w hw ec => ?_) (fun e => hX 0 (by unfold cGame cd3; rw [e1, e2, e]; rfl))
  subst ec
  have e3 := ng_f (n := 2) (x := w) (by omega) (by omega)
  refine ife (fun e => ⟨hn, hX 1 (by unfold cGame cd3; rw [e1, e2, e3, decide_eq_true e]; rfl)⟩) (fun e => ?_)
  have h := h (by unfold cGame cd3; rw [e1, e2, e3, decide_eq_false e]; rfl)
  unfold vGame at h
  rw [tN_nI (by omega), tN_nI (by omega)] at h
  refine c_temperOf hG.1 sc25 hR.sc hp (ife (fun t => ?_) (fun t => ?_))
  · rw [if_pos (Or.inl t)] at h
    exact h S (QC.refl _)
  · refine c_temperOf hG.1 sc25 hR.sc ho (ife (fun t2 => ?_) (fun t2 => ?_))
    · rw [if_pos (Or.inr t2)] at h
      exact h S (QC.refl _)
    · rw [if_neg (fun g => g.elim t t2)] at h
      refine c_play (by omega) hR.lc hR.sc hG.cok hp ho (fun S' f hv => ?_)
      have h := h S' (QC_fr f (fun k hk => by simp only [List.mem_cons, List.not_mem_nil, or_false] at hk; omega))
      refine ife (fun e => ?_) (fun e => ?_)
      · rw [if_pos e] at h
        exact c_resting (l := gl G) (L1 := fun x y => los (gA G) (gm (gl G) (gA G) p o x y) p x) (L2 := fun x y => los (gA G) (gm (gl G) (gA G) p o x y) o y) (by omega) hv h
      · rw [if_neg e] at h
        exact c_firstResting (l := gl G) (L1 := fun x y => los (gA G) (gm (gl G) (gA G) p o x y) p x) (L2 := fun x y => los (gA G) (gm (gl G) (gA G) p o x y) o y) (by omega) hv h
end GMX
