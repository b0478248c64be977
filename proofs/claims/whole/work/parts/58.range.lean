/-! RANGES: what stays so by days -/
def TOk (l : Lnd) (A : Scn) : Prop := (∀ x, x < lb l → ∃ n, n ≤ 99 ∧ A 6 x = nI n) ∧ ∀ p, p < lp l → ∃ n, n ≤ 99 ∧ A 1 p = nI n
def MOk (l : Lnd) (A : Scn) : Prop := ∀ p, p < lp l → ∃ n, n ≤ 9 ∧ A 4 p = nI n
section RG
variable {l : Lnd} {A : Scn}
theorem m99_nI {n : Nat} (h : n < 1000000) : ∃ m, m ≤ 99 ∧ m99 (nI n) = nI m := by
  unfold m99
  by_cases h1 : 99 < n
  · exact ⟨99, by omega, if_pos (show (99 : Int32) < nI n from nI_lt (a := 99) h1 (by omega))⟩
  · exact ⟨n, by omega, if_neg (show ¬ (99 : Int32) < nI n from nI_nlt (b := n) (a := 99) (by omega) (by omega))⟩
theorem TOk_t {p : Nat} {v : Int32} (h : TOk l A) (hv : ∃ n, n ≤ 99 ∧ v = nI n) : TOk l (ua A 1 p v) := by
  refine ⟨fun x hx => ?_, fun p' hp => ?_⟩
  · rw [ua_ne _ _ _ (by decide)]
    exact h.1 x hx
  · rw [ua_same]
    by_cases e : p' = p
    · rw [e, upd_same]
      exact hv
    · rw [upd_ne _ _ e]
      exact h.2 p' hp
theorem TOk_k {k i : Nat} {v : Int32} (h : TOk l A) (hk : k ≠ 1 ∧ k ≠ 6) : TOk l (ua A k i v) := by
  refine ⟨fun x hx => ?_, fun p' hp => ?_⟩
  · rw [ua_ne _ _ _ (Ne.symm hk.2)]
    exact h.1 x hx
  · rw [ua_ne _ _ _ (Ne.symm hk.1)]
    exact h.2 p' hp
theorem TOk_fill {x : Nat} {t o : Int32} (h : TOk l A) (hv : ∃ n, n ≤ 99 ∧ t = nI n) : TOk l (fill A x t o) := by
  unfold fill
  refine TOk_k (TOk_k ?_ (by decide)) (by decide)
  refine ⟨fun x' hx => ?_, fun p' hp => ?_⟩
  · rw [ua_same]
    by_cases e : x' = x
    · rw [e, upd_same]
      exact hv
    · rw [upd_ne _ _ e]
      exact h.1 x' hx
  · rw [ua_ne _ _ _ (by decide)]
    exact h.2 p' hp
theorem rise_r (hM : MOk l A) {p : Nat} (hp : p < lp l) : ∃ n, n ≤ 20 ∧ rise l A p = nI n := by
  unfold rise
  by_cases h0 : (lri l).1 = 0
  · rw [if_pos h0]
    obtain ⟨m, hm, e⟩ := hM p hp
    rw [e]
    exact ⟨10 - m, by omega, pk_sub (a := 10) (b := m) (by omega)⟩
  · rw [if_neg h0]
    unfold bnd
    generalize rval (vRi A p) (lri l) = v
    by_cases h1 : v < 0
    · exact ⟨0, by omega, by rw [if_pos h1]; rfl⟩
    · rw [if_neg h1]
      by_cases h2 : 20 < v
      · exact ⟨20, by omega, by rw [if_pos h2]; rfl⟩
      · rw [if_neg h2]
        rcases pk_ix v (n := 21) (by omega) with g | g | ⟨x, hx, rfl⟩
        · exact absurd g h1
        · exact absurd ((lt_le (n := 20) (by omega)).mpr g) h2
        · exact ⟨x, by omega, rfl⟩
theorem nI_half {n : Nat} (h : n ≤ 99) : ∃ m, m ≤ 99 ∧ nI n / 2 = nI m := ⟨n / 2, by omega, pk_div (a := n) (d := 2) (by omega) (by omega) (by omega)⟩
theorem TOk_pday {p : Nat} {r : Scn × Nat × Nat} (hp : p < lp l) (h : TOk l r.1) (hM : MOk l r.1) : TOk l (pday l p r).1 := by
  obtain ⟨t, ht, et⟩ := h.2 p hp
  obtain ⟨s, hs, es⟩ := rise_r hM hp
  have hB : TOk l (ua r.1 1 p (m99 (r.1 1 p + rise l r.1 p))) := by
    refine TOk_t h ?_
    rw [et, es, nI_add]
    exact m99_nI (by omega)
  unfold pday
  simp only
  generalize ua r.1 1 p (m99 (r.1 1 p + rise l r.1 p)) = B at hB ⊢
  obtain ⟨u, hu, eu⟩ := hB.2 p hp
  split
  · exact hB
  · unfold goO
    cases nw l B p with
    | none =>
      show TOk l (ua (ua B 2 p (B 2 p + 1)) 1 p (B 1 p / 2))
      refine TOk_t (TOk_k hB (by decide)) ?_
      rw [eu]
      exact nI_half hu
    | some x =>
      show TOk l (ua (fill B x (B 1 p) (nI p)) 1 p 0)
      exact TOk_t (TOk_fill hB ⟨u, hu, eu⟩) ⟨0, by omega, rfl⟩
theorem MOk_of {A' : Scn} (h : MOk l A) (e : A' 4 = A 4) : MOk l A' := by
  unfold MOk
  rw [e]
  exact h
theorem TOk_goF (hl : LOk l) (T : Nat) (h : TOk l A) : TOk l (goF l A T) := by
  have b10 := hl.b10
  unfold goF
  refine zfo_inv (P := fun A' : Scn => TOk l A') (fun j A' hj h => ?_) (zfo_inv (P := fun A' : Scn => TOk l A') (fun j A' hj h => ?_) h)
  · show TOk l (if T.testBit j then fill A' j 0 (-1) else A')
    split
    · exact TOk_fill h ⟨0, by omega, rfl⟩
    · exact h
  · unfold hear
    obtain ⟨t, ht, et⟩ := h.2 j hj
    refine TOk_t (TOk_k h (by decide)) ?_
    have := nhr_le (l := l) (A := A') (T := T) (p := j) (lb l)
    rw [et, show (5 : Int32) * nI (nhr l A' T j (lb l)) = nI (5 * nhr l A' T j (lb l)) from pk_mul 5 _, nI_add]
    exact m99_nI (by omega)
theorem TOk_day (hl : LOk l) (h : TOk l A) (hM : MOk l A) : TOk l (dayF l A).1 := by
  unfold dayF
  simp only
  refine TOk_k ?_ (by decide)
  have h1 : TOk l (zfo (pday l) (lp l) (A, 0, 0)).1 ∧ MOk l (zfo (pday l) (lp l) (A, 0, 0)).1 := zfo_inv (P := fun r : Scn × Nat × Nat => TOk l r.1 ∧ MOk l r.1) (fun k r hk h => ⟨TOk_pday hk h.1 h.2, MOk_of h.2 (pdayK (by omega) k r)⟩) ⟨h, hM⟩
  have h2 : TOk l (ages l (zfo (pday l) (lp l) (A, 0, 0)).1) := zfo_inv (P := fun A' : Scn => TOk l A') (fun k A' _ h => by
    show TOk l (if held A' k then ua A' 7 k (A' 7 k + 1) else A')
    split
    · exact TOk_k h (by decide)
    · exact h) h1.1
  unfold bst
  split
  · exact h2
  · exact TOk_goF hl _ h2
theorem AOk_iff : AOk l A ↔ ((∀ x, x < lb l → ∃ c, c < lw l * lh l ∧ A 5 x = nI c) ∧ GOk l A ∧ TOk l A ∧ MOk l A) := by
  constructor
  · intro h
    exact ⟨fun x hx => (h.1 x hx).1, fun x hx => (h.1 x hx).2.2, ⟨fun x hx => (h.1 x hx).2.1, fun p hp => (h.2 p hp).1⟩, fun p hp => (h.2 p hp).2⟩
  · rintro ⟨h1, h2, h3, h4⟩
    exact ⟨fun x hx => ⟨h1 x hx, h3.1 x hx, h2 x hx⟩, fun p hp => ⟨h3.2 p hp, h4 p hp⟩⟩
theorem AOk_day (hl : LOk l) (h : AOk l A) : AOk l (dayF l A).1 := by
  rw [AOk_iff] at h ⊢
  obtain ⟨h1, h2, h3, h4⟩ := h
  refine ⟨?_, day9 h2, TOk_day hl h3 h4, MOk_of h4 (dayK (by omega))⟩
  rw [dayK (by omega)]
  exact h1
theorem AOk_dayN (hl : LOk l) (h : AOk l A) : ∀ n, AOk l (dayN l A n)
  | 0 => h
  | n + 1 => AOk_day hl (AOk_dayN hl h n)
theorem AOk_goOff (hl : LOk l) (h : AOk l A) (s : Nat) : AOk l (goOff l A s) := by
  rw [AOk_iff] at h ⊢
  obtain ⟨h1, h2, h3, h4⟩ := h
  refine ⟨?_, GOk_of h2 (goFK (by omega) _), TOk_goF hl _ h3, MOk_of h4 (goFK (by omega) _)⟩
  unfold goOff
  rw [goFK (by omega)]
  exact h1
theorem AOk.pos (h : AOk l A) {x : Nat} (hx : x < lb l) : (A 6 x ≤ 0 ↔ A 6 x = 0) ∧ ¬ A 6 x < 0 := by
  obtain ⟨n, hn, e⟩ := (h.1 x hx).2.1
  rw [e]
  refine ⟨⟨fun h => ?_, fun h => by rw [h]; decide⟩, nI_pos (by omega)⟩
  rcases Nat.eq_zero_or_pos n with h0 | h0
  · rw [h0]
    rfl
  · exact absurd h (nI_nle h0 (by omega))
end RG
/-! the reference: sums, sets -/
section MS
variable {l : Lnd} {S : St} {E : zX} {d o : Nat} {A : Scn}
theorem e_sumOf {k n : Nat} {v : Int32} {Q : Int32 → St → Prop} (ho : o ≤ 79) (hA : ScM l (S 77) o A) (hl : LOk l) (hk : k < 10) (hn : n ≤ rng l k) (hv : v = nI n) (h : Q (smK A k n) S) : k_m_sumOf E d S (nI o) (nI (offM k)) v Q := by
  subst hv
  have g1 := rng_cap hl k
  have g2 := cap_10 k
  refine w_m_sumOf ?_
  refine dn (P := fun j => k_m_sumOf_6 E d S o (offM k) (nI n) (smK A k j) j Q) n ?_ ?_ 0 (Nat.zero_le _)
  · exact w_m_sumOf_6 (ilp n rfl (by omega) (by omega) (fun _ => h) (fun h => absurd h (Nat.lt_irrefl _)))
  · intro j hj ih
    refine w_m_sumOf_6 (ilp n rfl (by omega) (by omega) (fun h => by omega) (fun _ => ⟨?_, ?_⟩))
    · have := offM_79 k hk j (by omega) (by omega)
      omega
    · rw [hA k j hk (by omega)]
      exact ih
theorem e_ownOnes {v : Int32} {Q : Int32 → St → Prop} (hL : LM l S) (ho : o ≤ 79) (hA : ScM l (S 77) o A) (h : Q (nI (ownM l A v)) S) : k_m_ownOnes E d S (nI o) v Q := by
  have b10 := hL.ok.b10
  refine w_m_ownOnes ?_
  refine dn (P := fun k => k_m_ownOnes_5 E d S o v (nI (mkN (fun x => decide (A 8 x = v)) k)) k Q) (lb l) ?_ ?_ 0 (Nat.zero_le _)
  · exact w_m_ownOnes_5 (ilp (lb l) hL.b (by omega) (by omega) (fun _ => h) (fun h => absurd h (Nat.lt_irrefl _)))
  · intro k hk ih
    refine w_m_ownOnes_5 (ilp (lb l) hL.b (by omega) (by omega) (fun h => by omega) (fun _ => ⟨by omega, ?_⟩))
    rw [show S 77 (o + 59 + k) = A 8 k from hA 8 k (by decide) hk, nI_or0]
    refine ife (fun e => ?_) (fun e => ?_)
    · rw [mkN_or (by omega) (decide_eq_true e)]
      exact ih
    · rw [mkN_no (decide_eq_false e)]
      exact ih
theorem wht_of (hl : LOk l) : (((1 : Int32) <<< (nI (lb l) &&& 31)) - (1 : Int32)) &&& (nI (heldM l A) ^^^ ((-1) : Int32)) = nI (whtM l A) := by
  have b10 := hl.b10
  rw [show (1 : Int32) <<< (nI (lb l) &&& 31) = bt (lb l) from rfl, bt_eq _ (by omega), show nI (2 ^ lb l) - (1 : Int32) = nI (2 ^ lb l - 1) from pk_sub (a := 2 ^ lb l) (b := 1) (Nat.pow_pos (by decide)), nI_sdf]
  congr 1
  refine bits_ext (fun i => ?_)
  rw [sdf_bit, Nat.testBit_two_pow_sub_one]
  unfold whtM heldM
  rw [mkN_bit, mkN_bit]
  unfold held
  by_cases hi : i < lb l
  · by_cases h0 : A 6 i = 0
    · simp [hi, h0]
    · simp [hi, h0]
  · simp [hi]
theorem e_lowest {m : Nat} {Q : Int32 → St → Prop} (hm : m < 1024) (h0 : ¬ m = 0) (h : Q (oI (fstF (fun x => m.testBit x) 10)) S) : k_m_lowest E d S (nI m) Q := by
  refine w_m_lowest ?_
  refine dn (P := fun k => (∀ j, j < k → m.testBit j = false) → k_m_lowest_2 E d S (nI m) k Q) 10 ?_ ?_ 0 (Nat.zero_le _) (fun j hj => absurd hj (Nat.not_lt_zero j))
  · intro hn
    refine absurd (bits_ext (fun i => ?_)) h0
    rw [Nat.zero_testBit]
    by_cases hi : i < 10
    · exact hn i hi
    · exact bit_ge (n := 10) hm (by omega)
  · intro k hk ih hn
    refine w_m_lowest_2 ?_
    rw [nI_sbit (by omega) (by omega)]
    refine ife (fun hb => ih (fun j hj => ?_)) (fun hb => ?_)
    · by_cases e : j = k
      · rw [e]
        simpa using zb_0.mp hb
      · exact hn j (by omega)
    · have hb : m.testBit k = true := Classical.byContradiction (fun h => hb (zb_f h))
      rw [fstF_some hb hn 10 hk] at h
      exact h
end MS
