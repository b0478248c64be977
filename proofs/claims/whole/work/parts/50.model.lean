/-! THE REFERENCE: land, rows, what goes off -/
def offT (t : Nat → Tok) : Nat → Nat
  | 0 => 0
  | i + 1 => offT t i + (if (t i).1 ≤ 1 then 2 else 1)
/-- numbers of values in the reference -/
def encV (b : Bool) (k : Nat) : Nat := if b && decide (k < 4) then k + 5 else k
def encO (c : Nat) : Nat := if c = 3 then 5 else if c = 4 then 4 else c + 1
def RuM (b : Bool) (r : Rul) (a0 : Int32) (f : Nat → Int32) : Prop := (r.1 = 0 → a0 = -1) ∧ (0 < r.1 → ∃ a, a0 = nI a ∧ a + offT r.2 r.1 < 1400 ∧ f (a + offT r.2 r.1) = 0 ∧ ∀ i, i < r.1 → ((r.2 i).1 = 0 → f (a + offT r.2 i) = 1 ∧ f (a + offT r.2 i + 1) = nI (r.2 i).2) ∧ ((r.2 i).1 = 1 → f (a + offT r.2 i) = 2 ∧ f (a + offT r.2 i + 1) = nI (encV b (r.2 i).2)) ∧ ((r.2 i).1 = 2 → f (a + offT r.2 i) = 3) ∧ (3 ≤ (r.2 i).1 → f (a + offT r.2 i) = nI (encO (r.2 i).1)))
/-- the land in the reference -/
def LM (l : Lnd) (S : St) : Prop := LOk l ∧ S 65 1 = nI (lw l) ∧ S 65 2 = nI (lh l) ∧ S 65 3 = nI (lp l) ∧ S 65 4 = nI (lb l) ∧ (∀ i, i < lp l → S 66 i = nI (lhm l i)) ∧ (∀ x, x < lb l → S 67 x = nI (lsz l x)) ∧ RuM false (lri l) (S 65 5) (S 68) ∧ RuM true (lbu l) (S 65 6) (S 68)
section LMS
variable {l : Lnd} {S : St}
theorem LM.ok (h : LM l S) : LOk l := h.1
theorem LM.w (h : LM l S) : S 65 1 = nI (lw l) := h.2.1
theorem LM.h (h : LM l S) : S 65 2 = nI (lh l) := h.2.2.1
theorem LM.p (h : LM l S) : S 65 3 = nI (lp l) := h.2.2.2.1
theorem LM.b (h : LM l S) : S 65 4 = nI (lb l) := h.2.2.2.2.1
theorem LM.hm (h : LM l S) {i : Nat} (hi : i < lp l) : S 66 i = nI (lhm l i) := h.2.2.2.2.2.1 i hi
theorem LM.sz (h : LM l S) {x : Nat} (hx : x < lb l) : S 67 x = nI (lsz l x) := h.2.2.2.2.2.2.1 x hx
theorem LM.ri (h : LM l S) : RuM false (lri l) (S 65 5) (S 68) := h.2.2.2.2.2.2.2.1
theorem LM.bu (h : LM l S) : RuM true (lbu l) (S 65 6) (S 68) := h.2.2.2.2.2.2.2.2
end LMS
/-- what days change in the reference: the row from o on, piles, what a day brings -/
def FM (o : Nat) (S S' : St) : Prop := (∀ k, k ∉ [65, 77, 79, 80] → S' k = S k) ∧ (∀ i, i ∉ [45, 46, 47, 48] → S' 65 i = S 65 i) ∧ ∀ i, i < o ∨ o + 79 ≤ i → S' 77 i = S 77 i
theorem FM.refl (o : Nat) (S : St) : FM o S S := ⟨fun _ _ => rfl, fun _ _ => rfl, fun _ _ => rfl⟩
theorem FM.trans {o : Nat} {S S1 S2 : St} (h1 : FM o S S1) (h2 : FM o S1 S2) : FM o S S2 := ⟨fun k hk => (h2.1 k hk).trans (h1.1 k hk), fun i hi => (h2.2.1 i hi).trans (h1.2.1 i hi), fun i hi => (h2.2.2 i hi).trans (h1.2.2 i hi)⟩
theorem FM_row {o : Nat} {S : St} (j : Nat) (v : Int32) (h1 : o ≤ j) (h2 : j < o + 79) : FM o S (up S 77 j v) := by
  refine ⟨fun k hk => up_ne _ _ _ (fun e => hk (by rw [e]; decide)), fun i _ => by rw [up_ne _ _ _ (by decide)], fun i hi => ?_⟩
  rw [up_same, upd_ne _ _ (by omega)]
theorem FM_ev {o : Nat} {S : St} (j : Nat) (v : Int32) (h1 : j ∈ [45, 46, 47, 48]) : FM o S (up S 65 j v) := by
  refine ⟨fun k hk => up_ne _ _ _ (fun e => hk (by rw [e]; decide)), fun i hi => ?_, fun i hi => by rw [up_ne _ _ _ (by decide)]⟩
  rw [up_same, upd_ne _ _ (fun e => hi (by rw [e]; exact h1))]
theorem FM_fr {o : Nat} {S S' : St} (h : Fr [79, 80] S S') : FM o S S' := by
  refine ⟨fun k hk => h k (fun hm => hk ?_), fun i _ => by rw [h 65 (by decide)], fun i _ => by rw [h 77 (by decide)]⟩
  simp only [List.mem_cons, List.not_mem_nil, or_false] at hm ⊢
  omega
theorem LM_of {l : Lnd} {S S' : St} (h : LM l S) (h1 : ∀ i, 1 ≤ i → i ≤ 6 → S' 65 i = S 65 i) (h2 : S' 66 = S 66) (h3 : S' 67 = S 67) (h4 : S' 68 = S 68) : LM l S' := by
  unfold LM
  rw [h1 1 (by decide) (by decide), h1 2 (by decide) (by decide), h1 3 (by decide) (by decide), h1 4 (by decide) (by decide), h1 5 (by decide) (by decide), h1 6 (by decide) (by decide), h2, h3, h4]
  exact h
theorem LM_fm {l : Lnd} {o : Nat} {S S' : St} (h : LM l S) (f : FM o S S') : LM l S' := LM_of h (fun i h1 h2 => f.2.1 i (by simp only [List.mem_cons, List.not_mem_nil, or_false]; omega)) (f.1 66 (by decide)) (f.1 67 (by decide)) (f.1 68 (by decide))
theorem LM_fr {l : Lnd} {S S' : St} (h : LM l S) (f : Fr [79, 80] S S') : LM l S' := LM_fm (o := 0) h (FM_fr f)
theorem ScM_set {l : Lnd} {S : St} {o : Nat} {A : Scn} {k i : Nat} {v : Int32} (hl : LOk l) (hA : ScM l (S 77) o A) (hk : k < 10) (hi : i < rng l k) : ScM l (up S 77 (o + offM k + i) v 77) o (ua A k i v) := by
  rw [up_same]
  exact ScM_up hl hA hk hi v
section MO
variable {l : Lnd} {S : St} {E : zX} {d o : Nat} {A : Scn}
theorem e_apart {u v : Nat} {Q : Int32 → St → Prop} (hu : u < 1000) (hv : v < 1000) (h : Q (nI (adf u v)) S) : k_m_apart E d S (nI u) (nI v) Q := by
  refine w_m_apart ?_
  unfold adf at h
  refine ife (fun e => ?_) (fun e => ?_)
  · rw [nI_leI (by omega) (by omega)] at e
    rw [if_neg (by omega)] at h
    rw [pk_sub e]
    exact h
  · rw [nI_leI (by omega) (by omega)] at e
    rw [if_pos (by omega)] at h
    rw [pk_sub (by omega)]
    exact h
theorem e_farOf {x y : Int32} {a b : Nat} {Q : Int32 → St → Prop} (hd : 1 ≤ d) (hL : LM l S) (hx : x = nI a) (hy : y = nI b) (ha : a < lw l * lh l) (hb : b < lw l * lh l) (h : Q (nI (far (lw l) a b)) S) : k_m_farOf E d S x y Q := by
  subst hx
  subst hy
  have h36 := hL.ok.c36
  have w1 := hL.ok.w1
  have w6 := hL.ok.w6
  obtain ⟨a1, a2⟩ := dm_lt ha hL.ok.w6 hL.ok.2.2.2.1 w1
  obtain ⟨b1, b2⟩ := dm_lt hb hL.ok.w6 hL.ok.2.2.2.1 w1
  have hw : ¬ S 65 1 = 0 := by
    rw [hL.w]
    exact nI_ne0 (by omega) (by omega)
  refine w_m_farOf hd ⟨hw, hw, ?_⟩
  rw [hL.w]
  unfold zrem
  rw [pk_rem (by omega) (by omega) (by omega), pk_rem (by omega) (by omega) (by omega)]
  refine e_apart a1 b1 ⟨hw, hw, ?_⟩
  rw [hL.w, pk_div (by omega) (by omega) (by omega), pk_div (by omega) (by omega) (by omega)]
  refine e_apart a2 b2 ?_
  rw [nI_add]
  exact h
theorem e_isWhite {x : Nat} {Q : Int32 → St → Prop} (hl : LOk l) (ho : o ≤ 79) (hA : ScM l (S 77) o A) (hx : x < lb l) (h : Q (zb (A 6 x = 0)) S) : k_m_isWhite E d S (nI o) (nI x) Q := by
  have := hl.b10
  refine w_m_isWhite ⟨by omega, ?_⟩
  rw [show S 77 (o + 39 + x) = A 6 x from hA 6 x (by decide) hx]
  refine ife (fun e => ?_) (fun e => ?_)
  · rw [zb_t e] at h
    exact h
  · rw [zb_f e] at h
    exact h
theorem e_isIn {x c : Nat} {y : Int32} {Q : Int32 → St → Prop} (hd : 2 ≤ d) (hL : LM l S) (ho : o ≤ 79) (hA : ScM l (S 77) o A) (hO : COk l A) (hx : x < lb l) (hy : y = nI c) (hc : c < lw l * lh l) (h : Q (zb (rch l A x c = true)) S) : k_m_isIn E d S (nI o) (nI x) y Q := by
  have := hL.ok.b10
  refine w_m_isIn (by omega) ⟨by omega, ?_⟩
  rw [show S 77 (o + 29 + x) = A 5 x from hA 5 x (by decide) hx]
  refine e_farOf (by omega) hL (hO x hx).1 hy (hO x hx).2 hc ⟨by omega, ?_⟩
  rw [show S 77 (o + 39 + x) = A 6 x from hA 6 x (by decide) hx]
  refine ife (fun hc => ?_) (fun hc => ?_)
  · rw [zb_f (by unfold rch; rw [decide_eq_true_eq]; exact Int32.not_le.mpr hc)] at h
    exact h
  · rw [zb_t (by unfold rch; rw [decide_eq_true_eq]; exact Int32.not_lt.mp hc)] at h
    exact h
theorem nI_or0 (a : Nat) : nI a ||| (0 : Int32) = nI a := by
  rw [show (0 : Int32) = nI 0 from rfl, nI_or, Nat.or_zero]
theorem e_heldOnes {Q : Int32 → St → Prop} (hd : 1 ≤ d) (hL : LM l S) (ho : o ≤ 79) (hA : ScM l (S 77) o A) (h : Q (nI (heldM l A)) S) : k_m_heldOnes E d S (nI o) Q := by
  have b10 := hL.ok.b10
  refine w_m_heldOnes hd ?_
  refine dn (P := fun k => k_m_heldOnes_4 E d S o (nI (mkN (held A) k)) k Q) (lb l) ?_ ?_ 0 (Nat.zero_le _)
  · exact w_m_heldOnes_4 hd (ilp (lb l) hL.b (by omega) (by omega) (fun _ => h) (fun h => absurd h (Nat.lt_irrefl _)))
  · intro k hk ih
    refine w_m_heldOnes_4 hd (ilp (lb l) hL.b (by omega) (by omega) (fun h => by omega) (fun _ => ?_))
    refine e_isWhite hL.ok ho hA hk (izb (fun e => ?_) (fun e => ?_))
    · rw [nI_or0, mkN_no (by simp [held, e])]
      exact ih
    · rw [mkN_or (by omega) (decide_eq_true e)]
      exact ih
/-- guards are 0 or 1 -/
def GOk (l : Lnd) (A : Scn) : Prop := ∀ x, x < lb l → A 9 x = 0 ∨ A 9 x = 1
theorem shl0 : ∀ k, k < 31 → (0 : Int32) <<< (nI k &&& 31) = 0 := by decide +kernel
theorem e_guardedOnes {Q : Int32 → St → Prop} (hL : LM l S) (ho : o ≤ 79) (hA : ScM l (S 77) o A) (hG : GOk l A) (h : Q (nI (grdM l A)) S) : k_m_guardedOnes E d S (nI o) Q := by
  have b10 := hL.ok.b10
  refine w_m_guardedOnes ?_
  refine dn (P := fun k => k_m_guardedOnes_4 E d S o (nI (mkN (fun x => decide (A 9 x = 1)) k)) k Q) (lb l) ?_ ?_ 0 (Nat.zero_le _)
  · exact w_m_guardedOnes_4 (ilp (lb l) hL.b (by omega) (by omega) (fun _ => h) (fun h => absurd h (Nat.lt_irrefl _)))
  · intro k hk ih
    refine w_m_guardedOnes_4 (ilp (lb l) hL.b (by omega) (by omega) (fun h => by omega) (fun _ => ⟨by omega, ?_⟩))
    rw [show S 77 (o + 69 + k) = A 9 k from hA 9 k (by decide) hk]
    rcases hG k hk with e | e
    · rw [e, shl0 k (by omega), nI_or0, mkN_no (by rw [e]; decide)]
      exact ih
    · rw [e, show (1 : Int32) <<< (nI k &&& 31) = bt k from rfl, mkN_or (by omega) (by rw [e]; decide)]
      exact ih
theorem e_free {Q : Int32 → St → Prop} (hd : 2 ≤ d) (hL : LM l S) (ho : o ≤ 79) (hA : ScM l (S 77) o A) (hG : GOk l A) (h : Q (nI (freM l A)) S) : k_m_free E d S (nI o) Q := by
  refine w_m_free (by omega) (e_heldOnes (by omega) hL ho hA (e_guardedOnes hL ho hA hG ?_))
  rw [nI_sdf]
  exact h
theorem e_bits {m : Nat} {Q : Int32 → St → Prop} (hm : m < 2 ^ 31) (h : Q (nI (cnt m 10)) S) : k_m_bits E d S (nI m) Q := by
  refine w_m_bits ?_
  refine dn (P := fun k => k_m_bits_4 E d S (nI m) (nI (cnt m k)) k Q) 10 ?_ ?_ 0 (Nat.zero_le _)
  · exact w_m_bits_4 (ilp 10 rfl (by omega) (by omega) (fun _ => h) (fun h => absurd h (Nat.lt_irrefl _)))
  · intro k hk ih
    refine w_m_bits_4 (ilp 10 rfl (by omega) (by omega) (fun h => by omega) (fun _ => ?_))
    rw [nI_sbit hm (by omega)]
    have e : cnt m (k + 1) = if m.testBit k then cnt m k + 1 else cnt m k := rfl
    rw [e] at ih
    by_cases hb : m.testBit k = true
    · rw [if_pos hb] at ih
      rw [zb_t hb, nI_1]
      exact ih
    · rw [if_neg hb] at ih
      rw [zb_f hb, show nI (cnt m k) + (0 : Int32) = nI (cnt m k) from nI_add _ 0]
      exact ih
/-! what is set off: rounds until nothing is added -/
theorem e_setOff {can s : Nat} {Q : Int32 → St → Prop} (hd : 3 ≤ d) (hL : LM l S) (ho : o ≤ 79) (hA : ScM l (S 77) o A) (hO : COk l A) (hs : s < 2 ^ lb l) (hcan : can < 2 ^ 31) (h : Q (nI (clo l A can s)) S) : k_m_setOff E d S (nI o) (nI s) (nI can) Q := by
  have b10 := hL.ok.b10
  have hp : ∀ {a : Nat}, a < 2 ^ lb l → a < 2 ^ 31 := fun h => Nat.lt_of_lt_of_le h (Nat.pow_le_pow_right (by decide) (by omega))
  -- what is so of what is had: it holds s, it is in every closed set
  let Inv : Nat → Prop := fun a => a < 2 ^ lb l ∧ sub s a ∧ ∀ T : Nat → Prop, Cls l A can s T → ∀ i, a.testBit i = true → T i
  have addI : ∀ a x y, Inv a → x < lb l → y < lb l → a.testBit x = true → can.testBit y = true → rch l A x (cel A y) = true → Inv (a ||| 2 ^ y) := by
    intro a x y ha hx hy hax hcy hr
    refine ⟨bits_lt (fun i hi => ?_), fun i hi => sub_or _ _ i (ha.2.1 i hi), fun T hT i hi => ?_⟩
    · rw [Nat.testBit_or, bit_ge ha.1 hi, Nat.testBit_two_pow]
      simp
      omega
    · rw [Nat.testBit_or] at hi
      cases h1 : a.testBit i with
      | true => exact ha.2.2 T hT i h1
      | false =>
        rw [h1, Bool.false_or, Nat.testBit_two_pow] at hi
        have e : y = i := of_decide_eq_true hi
        subst e
        exact hT.2 x y (ha.2.2 T hT x hax) hx hy hcy hr
  have main : ∀ n a, Inv a → lb l - cnt a (lb l) < n → k_m_setOff_6 E d S o (nI can) (nI a) 1 Q := by
    intro n
    induction n with
    | zero => intro a _ h; omega
    | succ n ihn =>
      intro a ha hn
      refine w_m_setOff_6 (by omega) ?_
      rw [if_neg (by decide)]
      -- one round
      have round : ∀ k, k ≤ lb l → ∀ b m, Inv b → sub a b → (m = 0 ∨ m = 1) → (m = 0 → b = a ∧ ∀ x y, x < k → y < lb l → a.testBit x = true → can.testBit y = true → rch l A x (cel A y) = true → a.testBit y = true) → (m = 1 → cnt a (lb l) < cnt b (lb l)) → k_m_setOff_17 E d S o (nI can) (nI b) m k Q := by
        refine dn (lb l) ?_ ?_
        · intro b m hb hab hm h0 h1
          refine w_m_setOff_17 (by omega) (ilp (lb l) hL.b (by omega) (by omega) (fun _ => ?_) (fun h => absurd h (Nat.lt_irrefl _)))
          rcases hm with rfl | rfl
          · obtain ⟨rfl, hcl⟩ := h0 rfl
            refine w_m_setOff_6 (by omega) ?_
            rw [if_pos rfl]
            rw [← clo_of hb.1 ⟨hb.2.1, fun x y hx hxb hyb hcy hr => hcl x y hxb hyb hx hcy hr⟩ hb.2.2] at h
            exact h
          · have := h1 rfl
            exact ihn b hb (by have := cnt_le b (lb l); omega)
        · intro k hk ihk b m hb hab hm h0 h1
          refine w_m_setOff_17 (by omega) (ilp (lb l) hL.b (by omega) (by omega) (fun h => by omega) (fun _ => ?_))
          have inner : ∀ j, j ≤ lb l → ∀ b m, Inv b → sub a b → (m = 0 ∨ m = 1) → (m = 0 → b = a ∧ (∀ x y, x < k → y < lb l → a.testBit x = true → can.testBit y = true → rch l A x (cel A y) = true → a.testBit y = true) ∧ (∀ y, y < j → a.testBit k = true → can.testBit y = true → rch l A k (cel A y) = true → a.testBit y = true)) → (m = 1 → cnt a (lb l) < cnt b (lb l)) → k_m_setOff_29 E d S o (nI can) (nI b) m k j Q := by
            refine dn (lb l) ?_ ?_
            · intro b m hb hab hm h0 h1
              refine w_m_setOff_29 (by omega) (ilp (lb l) hL.b (by omega) (by omega) (fun _ => ?_) (fun h => absurd h (Nat.lt_irrefl _)))
              refine ihk b m hb hab hm (fun e => ?_) h1
              obtain ⟨e1, e2, e3⟩ := h0 e
              refine ⟨e1, fun x y hx hy hax hcy hr => ?_⟩
              by_cases ex : x = k
              · subst ex
                exact e3 y hy hax hcy hr
              · exact e2 x y (by omega) hy hax hcy hr
            · intro j hj ihj b m hb hab hm h0 h1
              refine w_m_setOff_29 (by omega) (ilp (lb l) hL.b (by omega) (by omega) (fun h => by omega) (fun _ => ?_))
              have skip : (b.testBit k = true → can.testBit j = true → rch l A k (cel A j) = true → b.testBit j = true) → k_m_setOff_29 E d S o (nI can) (nI b) m k (j + 1) Q := fun hsk => ihj b m hb hab hm (fun e => by
                obtain ⟨e1, e2, e3⟩ := h0 e
                refine ⟨e1, e2, fun y hy hak hcy hr => ?_⟩
                by_cases ey : y = j
                · subst ey
                  rw [e1] at hsk
                  exact hsk hak hcy hr
                · exact e3 y (by omega) hak hcy hr) h1
              rw [nI_sbit (hp hb.1) (by omega), nI_sbit (hp hb.1) (by omega), nI_sbit hcan (by omega)]
              refine ife (fun hk1 => ?_) (fun hk1 => ?_)
              · rw [zb_1] at hk1
                refine ife (fun hj1 => skip (fun _ _ _ => zb_1.mp hj1)) (fun hj1 => ?_)
                rw [zb_1] at hj1
                refine ife (fun hc1 => skip (fun _ h _ => absurd h (zb_0.mp hc1))) (fun hc1 => ?_)
                have hc1 : can.testBit j = true := by
                  cases hcj : can.testBit j with
                  | true => rfl
                  | false =>
                    rw [hcj] at hc1
                    exact absurd (by decide) hc1
                refine ⟨by omega, ?_⟩
                rw [show S 77 (o + 29 + j) = A 5 j from hA 5 j (by decide) hj]
                refine e_isIn (by omega) hL ho hA hO hk (hO j hj).1 (hO j hj).2 (izb (fun hr => ?_) (fun hr => skip (fun _ _ h => absurd h hr)))
                rw [nI_orb (by omega)]
                refine ihj (b ||| 2 ^ j) 1 (addI b k j hb hk hj hk1 hc1 hr) (fun i hi => sub_or _ _ i (hab i hi)) (Or.inr rfl) (fun e => absurd e (by decide)) (fun _ => ?_)
                have := cnt_mono hab (lb l)
                have hjb : b.testBit j = false := by simpa using hj1
                have := cnt_lt (sub_or b (2 ^ j)) (lb l) j hj (by rw [Nat.testBit_or, Nat.testBit_two_pow]; simp) hjb
                omega
              · rw [zb_1] at hk1
                refine ihk b m hb hab hm (fun e => ?_) h1
                obtain ⟨e1, e2, e3⟩ := h0 e
                refine ⟨e1, fun x y hx hy hax hcy hr => ?_⟩
                by_cases ex : x = k
                · subst ex
                  rw [e1] at hk1
                  exact absurd hax hk1
                · exact e2 x y (by omega) hy hax hcy hr
          exact inner 0 (Nat.zero_le _) b m hb hab hm (fun e => ⟨(h0 e).1, (h0 e).2, fun y hy => absurd hy (Nat.not_lt_zero y)⟩) h1
      exact round 0 (Nat.zero_le _) a 0 ha (fun _ h => h) (Or.inl rfl) (fun _ => ⟨rfl, fun x y hx => absurd hx (Nat.not_lt_zero x)⟩) (fun e => absurd e (by decide))
  refine w_m_setOff (by omega) ?_
  exact main (lb l + 1) s ⟨hs, fun _ h => h, fun T hT => hT.1⟩ (by omega)
end MO
