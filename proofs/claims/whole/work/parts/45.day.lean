/-! THE CLASS: rules, going out, a day -/
section DY
variable {l : Lnd} {S : St} {E : zX} {d q : Nat} {A : Scn}
theorem oI_ne {y : Nat} (h : y < 2 ^ 31) : ¬ nI y = (-1 : Int32) := by
  intro e
  have := nI_pos h
  rw [e] at this
  exact this (by decide)
theorem c_nearestWhite {p : Nat} {Q : Int32 → St → Prop} (hd : 1 ≤ d) (hL : LC l S) (hq : Sc q) (hA : ScC l (S (q + 1)) A) (hO : COk l A) (hp : p < lp l) (h : (∀ y, nw l A p = some y → y < lb l) → Q (oI (nw l A p)) S) : k_Downs_nearestWhite E d S q (nI p) Q := by
  have b10 := hL.ok.b10
  have p7 := hL.ok.p7
  refine w_Downs_nearestWhite (by omega) hq ?_
  refine dn (P := fun k => ∀ a4, (∀ y, zfo (nwS l A p) k none = some y → y < k ∧ a4 = nI (far (lw l) (cel A y) (lhm l p))) → k_Downs_nearestWhite_8 E d S q p (oI (zfo (nwS l A p) k none)) a4 k Q) (lb l) ?_ ?_ 0 (Nat.zero_le _) 0 (fun y h => by cases h)
  · intro a4 ha
    exact w_Downs_nearestWhite_8 (by omega) hq (ilp (lb l) hL.b (by omega) (by omega) (fun _ => h (fun y hy => (ha y hy).1)) (fun h => absurd h (Nat.lt_irrefl _)))
  · intro k hk ih a4 ha
    have e : zfo (nwS l A p) (k + 1) none = nwS l A p k (zfo (nwS l A p) k none) := rfl
    generalize hb : zfo (nwS l A p) k none = b at ha e
    rw [e] at ih
    have keep : nwS l A p k b = b → k_Downs_nearestWhite_8 E d S q p (oI b) a4 (k + 1) Q := fun e2 => by
      rw [e2] at ih
      exact ih a4 (fun y hy => ⟨Nat.lt_succ_of_lt (ha y hy).1, (ha y hy).2⟩)
    have take : nwS l A p k b = some k → k_Downs_nearestWhite_8 E d S q p (nI k) (nI (far (lw l) (cel A k) (lhm l p))) (k + 1) Q := fun e2 => by
      rw [e2] at ih
      exact ih _ (fun y hy => by cases hy; exact ⟨Nat.lt_succ_self _, rfl⟩)
    refine w_Downs_nearestWhite_8 (by omega) hq (ilp (lb l) hL.b (by omega) (by omega) (fun h => by omega) (fun _ => ?_))
    refine c_isWhite hL.ok hq hA hk (izb (fun hw => ?_) (fun hw => ?_))
    · refine ⟨by omega, c_temperOf hL.ok hq hA hp ?_⟩
      rw [hL.sz hk]
      refine ife (fun hs => keep ?_) (fun hs => ?_)
      · unfold nwS
        rw [if_neg (fun h => h.2 hs)]
      · refine c_cellOf hL.ok hq hA hk ⟨by omega, c_far hL (hO k hk).1 (hL.hm hp) (hO k hk).2 (hL.ok.hm hp) ?_⟩
        cases b with
        | none =>
          rw [if_pos (show oI none = -1 from rfl)]
          refine take ?_
          unfold nwS
          rw [if_pos ⟨hw, hs⟩]
        | some y =>
          obtain ⟨h1, h2⟩ := ha y rfl
          rw [if_neg (show ¬ oI (some y) = -1 from oI_ne (by omega)), h2]
          have g1 := far_lt hL.ok.w6 hL.ok.2.2.2.1 hL.ok.w1 (hO k hk).2 (hL.ok.hm hp)
          have g2 := far_lt hL.ok.w6 hL.ok.2.2.2.1 hL.ok.w1 (hO y (by omega)).2 (hL.ok.hm hp)
          refine ife (fun hc => ?_) (fun hc => ?_)
          · rw [nI_leI (by omega) (by omega)] at hc
            rw [← h2]
            refine keep ?_
            unfold nwS
            rw [if_pos ⟨hw, hs⟩]
            show (if _ then _ else _) = _
            rw [if_neg (by omega)]
          · rw [nI_leI (by omega) (by omega)] at hc
            refine take ?_
            unfold nwS
            rw [if_pos ⟨hw, hs⟩]
            show (if _ then _ else _) = _
            rw [if_pos (by omega)]
    · refine keep ?_
      unfold nwS
      rw [if_neg (fun h => hw h.1)]
theorem c_goOut {p : Nat} {Q : Int32 → St → Prop} (hd : 2 ≤ d) (hL : LC l S) (hq : Sc q) (hA : ScC l (S (q + 1)) A) (hO : COk l A) (hp : p < lp l) (h1 : ∀ A', goO l A p = some A' → ∀ S', Fr [q + 1] S S' → ScC l (S' (q + 1)) A' → Q 1 S') (h0 : goO l A p = none → Q 0 S) : k_Downs_goOut E d S q (nI p) Q := by
  have b10 := hL.ok.b10
  refine w_Downs_goOut (by omega) hq (c_nearestWhite (by omega) hL hq hA hO hp (fun hb => ?_))
  unfold goO at h1 h0
  cases e : nw l A p with
  | none =>
    rw [e] at h0
    rw [if_pos (show oI none = -1 from rfl)]
    exact h0 rfl
  | some x =>
    have hx := hb x e
    rw [e] at h1
    rw [if_neg (show ¬ oI (some x) = -1 from oI_ne (by omega))]
    refine c_temperOf hL.ok hq hA hp (c_fill hL.ok hq hA hx (fun S2 f2 A2 => c_setTemper (by omega) hL.ok hq A2 hp (fun S3 f3 A3 => h1 _ rfl S3 (f2.trans f3) ?_)))
    rw [show m99 0 = 0 from by decide] at A3
    exact A3
/-! rules -/
theorem c_join {c n : Nat} {a b : Int32} {Q : Int32 → St → Prop} (h3 : 3 ≤ c) (h10 : c ≤ 10) (h : Q (jn c a b) S) : k_Rule_join E d S (encC (c, n)) a b Q := by
  refine w_Rule_join ?_
  have : c = 3 ∨ c = 4 ∨ c = 5 ∨ c = 6 ∨ c = 7 ∨ c = 8 ∨ c = 9 ∨ c = 10 := by omega
  rcases this with rfl | rfl | rfl | rfl | rfl | rfl | rfl | rfl
  · rw [show encC (3, n) = -1 from rfl]
    rw [if_neg (by decide), if_neg (by decide), if_neg (by decide), if_neg (by decide), if_neg (by decide), if_neg (by decide), if_neg (by decide), if_pos rfl]
    have h : Q (zb (¬ a = 0 ∨ ¬ b = 0)) S := h
    refine ife (fun e => ife (fun e2 => ?_) (fun e2 => ?_)) (fun e => ?_)
    · rw [zb_f (by simp [e, e2])] at h
      exact h
    · rw [zb_t (Or.inr e2)] at h
      exact h
    · rw [zb_t (Or.inl e)] at h
      exact h
  · rw [show encC (4, n) = -2 from rfl]
    rw [if_neg (by decide), if_neg (by decide), if_neg (by decide), if_neg (by decide), if_neg (by decide), if_neg (by decide), if_pos rfl]
    have h : Q (zb (¬ a = 0 ∧ ¬ b = 0)) S := h
    refine ife (fun e => ?_) (fun e => ife (fun e2 => ?_) (fun e2 => ?_))
    · rw [zb_f (fun h => h.1 e)] at h
      exact h
    · rw [zb_f (fun h => h.2 e2)] at h
      exact h
    · rw [zb_t ⟨e, e2⟩] at h
      exact h
  · rw [show encC (5, n) = -4 from rfl]
    rw [if_neg (by decide), if_neg (by decide), if_neg (by decide), if_neg (by decide), if_pos rfl]
    have h : Q (zb (a < b)) S := h
    refine ife (fun e => ?_) (fun e => ?_)
    · rw [zb_f (Int32.not_lt.mpr e)] at h
      exact h
    · rw [zb_t (Int32.not_le.mp e)] at h
      exact h
  · rw [show encC (6, n) = -5 from rfl]
    rw [if_neg (by decide), if_neg (by decide), if_neg (by decide), if_pos rfl]
    have h : Q (zb (a = b)) S := h
    refine ife (fun e => ?_) (fun e => ?_)
    · rw [zb_t e] at h
      exact h
    · rw [zb_f e] at h
      exact h
  · rw [show encC (7, n) = -6 from rfl]
    rw [if_neg (by decide), if_neg (by decide), if_pos rfl]
    exact h
  · rw [show encC (8, n) = -7 from rfl]
    rw [if_neg (by decide), if_pos rfl]
    exact h
  · rw [show encC (9, n) = -8 from rfl]
    rw [if_pos rfl]
    exact h
  · rw [show encC (10, n) = -9 from rfl]
    rw [if_neg (by decide), if_neg (by decide), if_neg (by decide), if_neg (by decide), if_neg (by decide), if_neg (by decide), if_neg (by decide), if_neg (by decide)]
    have h : Q (if b = 0 then 0 else a / b) S := h
    refine ife (fun e => ?_) (fun e => ⟨e, ?_⟩)
    · rw [if_pos e] at h
      exact h
    · rw [if_neg e] at h
      exact h
theorem c_valueAt {k : Nat} {Q : Int32 → St → Prop} (hk : k < 5) (h : Q (S 41 k) S) : k_Rule_valueAt E d S (nI k) Q := by
  refine w_Rule_valueAt ?_
  rw [if_neg (nI_pos (by omega)), if_neg (nI_ge hk (by omega))]
  exact ⟨hk, h⟩
theorem enc_val : ∀ k, k < 5 → ((-20) : Int32) - ((-20) - nI k) = nI k ∧ ¬ ((-20) - nI k : Int32) = -3 ∧ ¬ (0 : Int32) ≤ (-20) - nI k ∧ ¬ (-20 : Int32) < (-20) - nI k ∧ ((-20) - nI k : Int32) < 0 := by decide +kernel
theorem enc_bin {c n : Nat} (h3 : 3 ≤ c) (h10 : c ≤ 10) : ¬ encC (c, n) = -3 ∧ ¬ (0 : Int32) ≤ encC (c, n) ∧ (-20 : Int32) < encC (c, n) := by
  have : c = 3 ∨ c = 4 ∨ c = 5 ∨ c = 6 ∨ c = 7 ∨ c = 8 ∨ c = 9 ∨ c = 10 := by omega
  rcases this with rfl | rfl | rfl | rfl | rfl | rfl | rfl | rfl
  · rw [show encC (3, n) = -1 from rfl]; decide
  · rw [show encC (4, n) = -2 from rfl]; decide
  · rw [show encC (5, n) = -4 from rfl]; decide
  · rw [show encC (6, n) = -5 from rfl]; decide
  · rw [show encC (7, n) = -6 from rfl]; decide
  · rw [show encC (8, n) = -7 from rfl]; decide
  · rw [show encC (9, n) = -8 from rfl]; decide
  · rw [show encC (10, n) = -9 from rfl]; decide
theorem rdp_le {r : Rul} (hr : ROk r) : ∀ i, i ≤ r.1 → rdp r.2 i ≤ 40
  | 0, _ => Nat.zero_le _
  | i + 1, hi => by
    have ih := rdp_le hr i (by omega)
    have := (hr.1 i (by omega)).1
    show (if (r.2 i).1 ≤ 1 then rdp r.2 i + 1 else if (r.2 i).1 = 2 then rdp r.2 i else rdp r.2 i - 1) ≤ 40
    by_cases h1 : (r.2 i).1 ≤ 1
    · rw [if_pos h1]
      exact this h1
    · rw [if_neg h1]
      split
      · exact ih
      · omega
theorem c_worth {u : Nat} {r : Rul} {v : Nat → Int32} {Q : Int32 → St → Prop} (hd : 1 ≤ d) (hu : Ru u) (hu1 : u ≠ 42) (hu2 : u + 1 ≠ 42) (hr : ROk r) (h0 : 0 < r.1) (hR : RuC r (S u 1) (S (u + 1))) (hv : ∀ k, k < 5 → S 41 k = v k) (h : ∀ S', Fr [42] S S' → Q (rval v r) S') : k_Rule_worth E d S u Q := by
  have h700 := hr.2.2
  refine w_Rule_worth hd hu ?_
  refine dn (P := fun i => ∀ S', Fr [42] S S' → S' 42 = (trn v r i (S 42)).1 → k_Rule_worth_5 E d S' u (nI (rdp r.2 i)) i Q) r.1 ?_ ?_ 0 (Nat.zero_le _) S (Fr.refl _ _) rfl
  · intro S' f e
    have eu : S' u = S u := f u (by simp [hu1])
    refine w_Rule_worth_5 hd hu (ilp r.1 (by rw [eu]; exact hR.1) (by omega) (by omega) (fun _ => ?_) (fun h => absurd h (Nat.lt_irrefl _)))
    rw [hr.2.1 h0, if_neg (by decide), e, rval_of hr h0]
    exact h S' f
  · intro i hi ih S' f e
    have eu : S' u = S u := f u (by simp [hu1])
    have eu1 : S' (u + 1) = S (u + 1) := f (u + 1) (by simp [hu2])
    have e41 : S' 41 = S 41 := f 41 (by simp)
    obtain ⟨g1, g2, g3, g4, g5, g6⟩ := hr.1 i hi
    have hdp := trn_2 v r (S 42) i
    have ed := trn_2 v r (S 42) (i + 1)
    have d40 := rdp_le hr i (by omega)
    have fin : ∀ S5 m', Fr [42] S S5 → S5 42 = (tst v (r.2 i) (trn v r i (S 42))).1 → m' = nI ((tst v (r.2 i) (trn v r i (S 42))).2) → k_Rule_worth_5 E d S5 u m' (i + 1) Q := fun S5 m' f5 h5 hm => by
      rw [hm, show (tst v (r.2 i) (trn v r i (S 42))).2 = rdp r.2 (i + 1) from ed]
      exact ih S5 f5 h5
    refine w_Rule_worth_5 hd hu (ilp r.1 (by rw [eu]; exact hR.1) (by omega) (by omega) (fun h => by omega) (fun _ => ⟨by omega, ?_⟩))
    rw [eu1, hR.2 i hi]
    generalize r.2 i = tk at *
    obtain ⟨c, n⟩ := tk
    generalize trn v r i (S 42) = qq at *
    obtain ⟨ff, m⟩ := qq
    have hdp : m = rdp r.2 i := hdp
    have e : S' 42 = ff := e
    rw [← hdp] at g1 g4 g5 d40 ⊢
    have g1 : c ≤ 1 → m < 40 := g1
    have g2 : c = 0 → n ≤ 9999 := g2
    have g3 : c = 1 → n < 5 := g3
    have g4 : c = 2 → 1 ≤ m := g4
    have g5 : 3 ≤ c → 2 ≤ m := g5
    have g6 : c ≤ 10 := g6
    have fu : ∀ j x, Fr [42] S (up S' 42 j x) := fun j x => f.trans (Fr.up _ _ List.mem_cons_self)
    have hc : c = 0 ∨ c = 1 ∨ c = 2 ∨ 3 ≤ c := by omega
    rcases hc with rfl | rfl | rfl | hc
    · have hn := g2 rfl
      have hm := g1 (by decide)
      rw [show encC (0, n) = nI n from rfl]
      rw [if_neg (fun e2 => by have := nI_pos (n := n) (by omega); rw [e2] at this; exact this (by decide)), if_pos (nI_pos' (by omega))]
      refine w_Rule_worth_67 hd hu ?_
      rw [if_neg (show ¬ (40 : Int32) ≤ nI m from nI_ge (a := m) (b := 40) hm (by decide)), if_neg (nI_pos (by omega))]
      refine ⟨m, rfl, hm, fun S5 e5 => fin S5 _ ?_ ?_ ?_⟩
      · rw [e5]
        exact fu _ _
      · rw [e5, up_same, e]
        rfl
      · rw [nI_1]
        rfl
    · have hn := g3 rfl
      have hm := g1 (by decide)
      have ev := enc_val n hn
      have v1 := ev.1
      have v2 := ev.2.1
      have v3 := ev.2.2.1
      have v4 := ev.2.2.2.1
      have v5 := ev.2.2.2.2
      rw [show encC (1, n) = (-20) - nI n from rfl]
      rw [if_neg v2, if_neg v3, if_neg v4]
      refine w_Rule_worth_67 hd hu ?_
      rw [if_neg (show ¬ (40 : Int32) ≤ nI m from nI_ge (a := m) (b := 40) hm (by decide)), if_pos v5, v1]
      refine c_valueAt hn ⟨m, rfl, hm, fun S5 e5 => fin S5 _ ?_ ?_ ?_⟩
      · rw [e5]
        exact fu _ _
      · rw [e5, up_same, e, e41, hv n hn]
        rfl
      · rw [nI_1]
        rfl
    · have hm := g4 rfl
      rw [show encC (2, n) = -3 from rfl]
      rw [if_pos rfl, if_neg (nI_nle (by omega) (by omega))]
      have em : nI m - (1 : Int32) = nI (m - 1) := pk_sub (a := m) (b := 1) hm
      refine ⟨m - 1, em, by omega, ?_⟩
      rw [e]
      refine ife (fun e1 => ⟨m - 1, em, by omega, fun S5 e5 => fin S5 _ ?_ ?_ rfl⟩) (fun e1 => ⟨m - 1, em, by omega, fun S5 e5 => fin S5 _ ?_ ?_ rfl⟩)
      · rw [e5]
        exact fu _ _
      · rw [e5, up_same, e]
        show upd ff (m - 1) 1 = upd ff (m - 1) (zb (ff (m - 1) = 0))
        rw [zb_t e1]
      · rw [e5]
        exact fu _ _
      · rw [e5, up_same, e]
        show upd ff (m - 1) 0 = upd ff (m - 1) (zb (ff (m - 1) = 0))
        rw [zb_f e1]
    · have hm := g5 hc
      obtain ⟨v1, v2, v3⟩ := enc_bin (n := n) hc g6
      have em1 : nI m + (-1) = nI (m - 1) := by
        rw [show m = (m - 1) + 1 by omega, pk_m1]
        rfl
      have em2 : nI (m - 1) - (1 : Int32) = nI (m - 2) := pk_sub (a := m - 1) (b := 1) (by omega)
      rw [if_neg v1, if_neg v2, if_pos v3, if_neg (show ¬ nI m ≤ (1 : Int32) from nI_ge (a := 1) (by omega) (by omega)), em1]
      refine ⟨m - 2, em2, by omega, m - 1, rfl, by omega, c_join hc g6 ⟨m - 2, em2, by omega, fun S5 e5 => fin S5 _ ?_ ?_ ?_⟩⟩
      · rw [e5]
        exact fu _ _
      · rw [e5, up_same, e]
        unfold tst
        rw [if_neg (show ¬ c = 0 by omega), if_neg (show ¬ c = 1 by omega), if_neg (show ¬ c = 2 by omega)]
      · unfold tst
        rw [if_neg (show ¬ c = 0 by omega), if_neg (show ¬ c = 1 by omega), if_neg (show ¬ c = 2 by omega)]
theorem c_isTold {u n : Nat} {Q : Int32 → St → Prop} (hu : Ru u) (hn : S u 1 = nI n) (h7 : n ≤ 700) (h : Q (zb (¬ n = 0)) S) : k_Rule_isTold E d S u Q := by
  refine w_Rule_isTold hu ?_
  rw [hn]
  refine ife (fun e => ?_) (fun e => ?_)
  · rw [zb_f (p := ¬ n = 0) (fun h0 => nI_nle (n := n) (by omega) (by omega) e)] at h
    exact h
  · rw [zb_t (p := ¬ n = 0) (by intro h0; exact e (by rw [h0]; decide))] at h
    exact h
theorem c_riseOf {p : Nat} {Q : Int32 → St → Prop} (hd : 2 ≤ d) (hL : LC l S) (hq : Sc q) (hA : ScC l (S (q + 1)) A) (hp : p < lp l) (h : ∀ S', Fr [41, 42] S S' → Q (rise l A p) S') : k_Downs_riseOf E d S q (nI p) Q := by
  have hr := hL.ok.2.2.2.2.2.2.2.2.1
  refine w_Downs_riseOf (by omega) hq (c_isTold ru6 hL.ri.1 hr.2.2 (izb (fun h0 => ?_) (fun h0 => ?_)))
  · unfold rise at h
    rw [if_neg h0] at h
    refine c_mildOf hL.ok hq hA hp (fun S7 e7 => ?_)
    have f7 : Fr [41] S S7 := by
      rw [e7]
      exact Fr.up _ _ List.mem_cons_self
    have row : ∀ S', Fr [41] S S' → ScC l (S' (q + 1)) A := fun S' f => by
      rw [row_of hq f (fun k hk => by simp only [List.mem_cons, List.not_mem_nil, or_false] at hk; omega)]
      exact hA
    refine c_temperOf hL.ok hq (row _ f7) hp (fun S10 e10 => ?_)
    have f10 : Fr [41] S S10 := by
      rw [e10]
      exact f7.trans (Fr.up _ _ List.mem_cons_self)
    refine c_shoutedBy hL.ok hq (row _ f10) hp (fun S13 e13 => ?_)
    have f13 : Fr [41] S S13 := by
      rw [e13]
      exact f10.trans (Fr.up _ _ List.mem_cons_self)
    refine c_heardBy hL.ok hq (row _ f13) hp (fun S16 e16 => ?_)
    have f16 : Fr [41] S S16 := by
      rw [e16]
      exact f13.trans (Fr.up _ _ List.mem_cons_self)
    refine c_day hq (row _ f16) (fun S19 e19 => ?_)
    have f19 : Fr [41] S S19 := by
      rw [e19]
      exact f16.trans (Fr.up _ _ List.mem_cons_self)
    have hv : ∀ k, k < 5 → S19 41 k = vRi A p k := by
      intro k hk
      rw [e19, up_same, e16, up_same, e13, up_same, e10, up_same, e7, up_same]
      have : k = 0 ∨ k = 1 ∨ k = 2 ∨ k = 3 ∨ k = 4 := by omega
      rcases this with rfl | rfl | rfl | rfl | rfl <;> rfl
    refine c_worth (u := 6) (r := lri l) (v := vRi A p) (by omega) ru6 (by decide) (by decide) hr (by omega) ?_ hv (fun S21 f21 => ?_)
    · rw [f19 6 (by decide), f19 7 (by decide)]
      exact hL.ri
    · have e : zmax 0 (zmin 20 (rval (vRi A p) (lri l))) = bnd (rval (vRi A p) (lri l)) := by
        generalize rval (vRi A p) (lri l) = x
        unfold zmax zmin bnd
        by_cases h1 : x < 0
        · rw [if_pos h1, if_pos (Int32.lt_trans h1 (by decide)), if_neg (fun h2 => absurd (Int32.lt_trans h1 h2) (Int32.lt_irrefl))]
        · rw [if_neg h1]
          by_cases h2 : x < 20
          · rw [if_pos h2, if_neg (fun h3 => absurd (Int32.lt_trans h2 h3) (Int32.lt_irrefl))]
            by_cases h3 : 0 < x
            · rw [if_pos h3]
            · rw [if_neg h3]
              exact Int32.le_antisymm (Int32.not_lt.mp h1) (Int32.not_lt.mp h3)
          · rw [if_neg h2, if_pos (by decide)]
            by_cases h3 : 20 < x
            · rw [if_pos h3]
            · rw [if_neg h3]
              exact Int32.le_antisymm (Int32.not_lt.mp h2) (Int32.not_lt.mp h3)
      rw [e]
      refine h S21 (fun k hk => ?_)
      rw [f21 k (fun hm => hk (by simp only [List.mem_cons, List.not_mem_nil, or_false] at hm ⊢; omega)), f19 k (fun hm => hk (by simp only [List.mem_cons, List.not_mem_nil, or_false] at hm ⊢; omega))]
  · unfold rise at h
    rw [if_pos (Classical.not_not.mp h0)] at h
    exact c_mildOf hL.ok hq hA hp (h S (Fr.refl _ _))
/-- one's day in the class -/
theorem c_pday {p o s : Nat} {Q : St → Prop} (hd : 3 ≤ d) (hL : LC l S) (hq : Sc q) (hA : ScC l (S (q + 1)) A) (hO : COk l A) (hp : p < lp l) (ho : S 39 1 = nI o) (hs : S 39 2 = nI s) (h : ∀ S', Fr (dl q) S S' → ScC l (S' (q + 1)) (pday l p (A, o, s)).1 → S' 39 1 = nI (pday l p (A, o, s)).2.1 → S' 39 2 = nI (pday l p (A, o, s)).2.2 → Q S') : k_Downs_livePersonsDay E d S q (nI p) Q := by
  have p7 := hL.ok.p7
  have ni := sc_ni hq
  refine w_Downs_livePersonsDay (by omega) hq (c_temperOf hL.ok hq hA hp (c_riseOf (by omega) hL hq hA hp (fun S4 f4 => ?_)))
  have A4 : ScC l (S4 (q + 1)) A := by
    rw [row_of hq f4 (fun k hk => by simp only [List.mem_cons, List.not_mem_nil, or_false] at hk; omega)]
    exact hA
  refine c_setTemper (by omega) hL.ok hq A4 hp (fun S6 f6 A6 => ?_)
  have F6 : Fr (dl q) S S6 := (fr_4142 f4).trans (fr_q f6)
  have L6 := LC_dl hq hL F6
  have x39 : S6 39 = S 39 := by
    rw [f6 39 (by simp; omega), f4 39 (by decide)]
  refine c_temperOf L6.ok hq A6 hp ?_
  have O6 : COk l (ua A 1 p (m99 (A 1 p + rise l A p))) := COk_of hO (ua5 _ _ (by decide))
  unfold pday at h
  simp only at h
  generalize hB : ua A 1 p (m99 (A 1 p + rise l A p)) = B at *
  refine ife (fun h20 => ?_) (fun h20 => ?_)
  · rw [if_neg (Int32.not_lt.mpr h20)] at h
    refine c_goOut (by omega) L6 hq A6 O6 hp (fun B' hg S10 f10 A10 => ?_) (fun hg => ?_)
    · rw [if_neg (by decide)]
      intro S14 e14
      rw [hg] at h
      have y39 : S10 39 = S 39 := by rw [f10 39 (by simp; omega), x39]
      refine h S14 ?_ ?_ ?_ ?_
      · rw [e14]
        exact (F6.trans (fr_q f10)).trans (fr_u _ _ (Or.inl rfl))
      · rw [e14, up_ne _ _ _ (by omega)]
        exact A10
      · rw [e14, up_same, upd_same, y39, ho, nI_orb (by omega)]
      · rw [e14, up_same, upd_ne _ _ (by decide), y39, hs]
    · rw [if_pos rfl]
      rw [hg] at h
      refine c_shout L6.ok hq A6 hp (fun S12 f12 A12 => ?_)
      intro S13 e13
      have y39 : S12 39 = S 39 := by rw [f12 39 (by simp; omega), x39]
      refine h S13 ?_ ?_ ?_ ?_
      · rw [e13]
        exact (F6.trans (fr_q f12)).trans (fr_u _ _ (Or.inl rfl))
      · rw [e13, up_ne _ _ _ (by omega)]
        exact A12
      · rw [e13, up_same, upd_ne _ _ (by decide), y39, ho]
      · rw [e13, up_same, upd_same, y39, hs, nI_orb (by omega)]
  · rw [if_pos (Int32.not_le.mp h20)] at h
    exact h S6 F6 A6 (by rw [x39]; exact ho) (by rw [x39]; exact hs)
end DY
