/-! THE REFERENCE: rules, a day whole -/
section MP
variable {l : Lnd} {S : St} {E : zX} {d o : Nat} {A : Scn}
theorem e_works {c : Nat} {a b : Int32} {Q : Int32 → St → Prop} (h3 : 3 ≤ c) (h10 : c ≤ 10) (h : Q (jn c a b) S) : k_m_works E d S (nI (encO c)) a b Q := by
  refine w_m_works ?_
  have : c = 3 ∨ c = 4 ∨ c = 5 ∨ c = 6 ∨ c = 7 ∨ c = 8 ∨ c = 9 ∨ c = 10 := by omega
  rcases this with rfl | rfl | rfl | rfl | rfl | rfl | rfl | rfl
  · rw [show nI (encO 3) = (5 : Int32) from rfl]
    rw [if_neg (by decide), if_pos rfl]
    have h : Q (zb (¬ a = 0 ∨ ¬ b = 0)) S := h
    refine ife (fun e => ife (fun e2 => ?_) (fun e2 => ?_)) (fun e => ?_)
    · rw [zb_f (by simp [e, e2])] at h
      exact h
    · rw [zb_t (Or.inr e2)] at h
      exact h
    · rw [zb_t (Or.inl e)] at h
      exact h
  · rw [show nI (encO 4) = (4 : Int32) from rfl]
    rw [if_pos rfl]
    have h : Q (zb (¬ a = 0 ∧ ¬ b = 0)) S := h
    refine ife (fun e => ?_) (fun e => ife (fun e2 => ?_) (fun e2 => ?_))
    · rw [zb_f (fun h => h.1 e)] at h
      exact h
    · rw [zb_f (fun h => h.2 e2)] at h
      exact h
    · rw [zb_t ⟨e, e2⟩] at h
      exact h
  · rw [show nI (encO 5) = (6 : Int32) from rfl]
    rw [if_neg (by decide), if_neg (by decide), if_pos rfl]
    have h : Q (zb (a < b)) S := h
    refine ife (fun e => ?_) (fun e => ?_)
    · rw [zb_f (Int32.not_lt.mpr e)] at h
      exact h
    · rw [zb_t (Int32.not_le.mp e)] at h
      exact h
  · rw [show nI (encO 6) = (7 : Int32) from rfl]
    rw [if_neg (by decide), if_neg (by decide), if_neg (by decide), if_pos rfl]
    have h : Q (zb (a = b)) S := h
    refine ife (fun e => ?_) (fun e => ?_)
    · rw [zb_t e] at h
      exact h
    · rw [zb_f e] at h
      exact h
  · rw [show nI (encO 7) = (8 : Int32) from rfl]
    rw [if_neg (by decide), if_neg (by decide), if_neg (by decide), if_neg (by decide), if_pos rfl]
    exact h
  · rw [show nI (encO 8) = (9 : Int32) from rfl]
    rw [if_neg (by decide), if_neg (by decide), if_neg (by decide), if_neg (by decide), if_neg (by decide), if_pos rfl]
    exact h
  · rw [show nI (encO 9) = (10 : Int32) from rfl]
    rw [if_neg (by decide), if_neg (by decide), if_neg (by decide), if_neg (by decide), if_neg (by decide), if_neg (by decide), if_pos rfl]
    exact h
  · rw [show nI (encO 10) = (11 : Int32) from rfl]
    rw [if_neg (by decide), if_neg (by decide), if_neg (by decide), if_neg (by decide), if_neg (by decide), if_neg (by decide), if_neg (by decide)]
    have h : Q (if b = 0 then 0 else a / b) S := h
    refine ife (fun e => ?_) (fun e => ⟨e, ?_⟩)
    · rw [if_pos e] at h
      exact h
    · rw [if_neg e] at h
      exact h
theorem encO_ne {c : Nat} (h3 : 3 ≤ c) (h10 : c ≤ 10) : ¬ nI (encO c) = (0 : Int32) ∧ ¬ nI (encO c) = (1 : Int32) ∧ ¬ nI (encO c) = (2 : Int32) ∧ ¬ nI (encO c) = (3 : Int32) := by
  have : c = 3 ∨ c = 4 ∨ c = 5 ∨ c = 6 ∨ c = 7 ∨ c = 8 ∨ c = 9 ∨ c = 10 := by omega
  rcases this with rfl | rfl | rfl | rfl | rfl | rfl | rfl | rfl <;> decide
theorem offT_mono (t : Nat → Tok) {i n : Nat} (h : i ≤ n) : offT t i ≤ offT t n := by
  induction h with
  | refl => exact Nat.le_refl _
  | step _ ih =>
    refine Nat.le_trans ih ?_
    show _ ≤ offT t _ + _
    exact Nat.le_add_right _ _
theorem offT_lt (t : Nat → Tok) {i n : Nat} (h : i < n) : offT t i + (if (t i).1 ≤ 1 then 2 else 1) ≤ offT t n := offT_mono t (show i + 1 ≤ n from h)
theorem e_reckons {b : Bool} {r : Rul} {v : Nat → Int32} {a0 : Int32} {Q : Int32 → St → Prop} (hd : 1 ≤ d) (hr : ROk r) (h0 : 0 < r.1) (hR : RuM b r a0 (S 68)) (hv : ∀ k, k < 5 → S 79 (encV b k) = v k) (h : ∀ S', Fr [80] S S' → Q (rval v r) S') : k_m_reckons E d S a0 Q := by
  have h700 := hr.2.2
  obtain ⟨a, ha, h1400, hend, hcode⟩ := hR.2 h0
  subst ha
  refine w_m_reckons hd ?_
  refine dn (P := fun i => ∀ S', Fr [80] S S' → S' 80 = (trn v r i (S 80)).1 → k_m_reckons_4 E d S' (nI (rdp r.2 i)) (nI (a + offT r.2 i)) Q) r.1 ?_ ?_ 0 (Nat.zero_le _) S (Fr.refl _ _) rfl
  · intro S' f e
    refine w_m_reckons_4 hd ⟨a + offT r.2 r.1, rfl, h1400, ?_⟩
    rw [f 68 (by decide), hend, if_pos rfl, e, rval_of hr h0]
    exact h S' f
  · intro i hi ih S' f e
    have e68 : S' 68 = S 68 := f 68 (by decide)
    have e79 : S' 79 = S 79 := f 79 (by decide)
    obtain ⟨g1, g2, g3, g4, g5, g6⟩ := hr.1 i hi
    obtain ⟨c0, c1, c2, c3⟩ := hcode i hi
    have hdp := trn_2 v r (S 80) i
    have ed := trn_2 v r (S 80) (i + 1)
    have d40 := rdp_le hr i (by omega)
    have hol := offT_lt r.2 hi
    have eo : offT r.2 (i + 1) = offT r.2 i + (if (r.2 i).1 ≤ 1 then 2 else 1) := rfl
    have fin : ∀ S5 m' a', Fr [80] S S5 → S5 80 = (tst v (r.2 i) (trn v r i (S 80))).1 → m' = nI ((tst v (r.2 i) (trn v r i (S 80))).2) → a' = nI (a + (offT r.2 i + (if (r.2 i).1 ≤ 1 then 2 else 1))) → k_m_reckons_4 E d S5 m' a' Q := fun S5 m' a' f5 h5 hm ha => by
      rw [hm, ha, show (tst v (r.2 i) (trn v r i (S 80))).2 = rdp r.2 (i + 1) from ed, ← eo]
      exact ih S5 f5 h5
    clear ih eo
    generalize hoi : offT r.2 i = oi at *
    generalize r.2 i = tk at *
    obtain ⟨c, n⟩ := tk
    generalize trn v r i (S 80) = qq at *
    obtain ⟨ff, m⟩ := qq
    have hdp : m = rdp r.2 i := hdp
    have e : S' 80 = ff := e
    rw [← hdp] at g1 g4 g5 d40 ⊢
    have g1 : c ≤ 1 → m < 40 := g1
    have g2 : c = 0 → n ≤ 9999 := g2
    have g3 : c = 1 → n < 5 := g3
    have g4 : c = 2 → 1 ≤ m := g4
    have g5 : 3 ≤ c → 2 ≤ m := g5
    have g6 : c ≤ 10 := g6
    have hol : oi + (if c ≤ 1 then 2 else 1) ≤ offT r.2 r.1 := hol
    have hoi2 : oi + 1 ≤ offT r.2 r.1 := by
      by_cases hc1 : c ≤ 1
      · rw [if_pos hc1] at hol
        omega
      · rw [if_neg hc1] at hol
        omega
    have fu : ∀ j x, Fr [80] S (up S' 80 j x) := fun j x => f.trans (Fr.up _ _ List.mem_cons_self)
    have hc : c = 0 ∨ c = 1 ∨ c = 2 ∨ 3 ≤ c := by omega
    refine w_m_reckons_4 hd ⟨a + oi, rfl, by omega, ?_⟩
    rw [e68]
    rcases hc with rfl | rfl | rfl | hc
    · obtain ⟨k1, k2⟩ := c0 rfl
      have hm := g1 (by decide)
      have hol : oi + 2 ≤ offT r.2 r.1 := hol
      rw [k1, if_neg (by decide)]
      refine ⟨a + oi, rfl, by omega, ?_⟩
      rw [k1, if_pos rfl]
      refine w_m_reckons_36 hd ?_
      rw [if_pos rfl]
      refine ⟨a + oi + 1, nI_1 _, by omega, m, rfl, by omega, fun S5 e5 => fin S5 _ _ ?_ ?_ ?_ ?_⟩
      · rw [e5]
        exact fu _ _
      · rw [e5, up_same, e, e68, k2]
        rfl
      · rw [nI_1]
        rfl
      · rw [nI_1, nI_1]
        rfl
    · obtain ⟨k1, k2⟩ := c1 rfl
      have hn := g3 rfl
      have hm := g1 (by decide)
      have hol : oi + 2 ≤ offT r.2 r.1 := hol
      rw [k1, if_neg (by decide)]
      refine ⟨a + oi, rfl, by omega, ?_⟩
      rw [k1, if_neg (by decide), if_pos rfl]
      refine w_m_reckons_36 hd ?_
      rw [if_neg (by decide)]
      have hn9 : encV b n < 9 := by
        unfold encV
        by_cases hb : (b && decide (n < 4)) = true
        · rw [if_pos hb]
          simp only [Bool.and_eq_true, decide_eq_true_eq] at hb
          omega
        · rw [if_neg hb]
          omega
      refine ⟨a + oi + 1, nI_1 _, by omega, encV b n, by rw [e68]; exact k2, hn9, m, rfl, by omega, fun S5 e5 => fin S5 _ _ ?_ ?_ ?_ ?_⟩
      · rw [e5]
        exact fu _ _
      · rw [e5, up_same, e, e79, hv n hn]
        rfl
      · rw [nI_1]
        rfl
      · rw [nI_1, nI_1]
        rfl
    · have k1 := c2 rfl
      have hm := g4 rfl
      rw [k1, if_neg (by decide)]
      refine ⟨a + oi, rfl, by omega, ?_⟩
      rw [k1, if_neg (by decide), if_neg (by decide), if_pos rfl]
      have em : nI m - (1 : Int32) = nI (m - 1) := pk_sub (a := m) (b := 1) hm
      refine ⟨m - 1, em, by omega, ?_⟩
      rw [e]
      refine ife (fun e1 => ⟨m - 1, em, by omega, fun S5 e5 => fin S5 _ _ ?_ ?_ rfl (nI_1 _)⟩) (fun e1 => ⟨m - 1, em, by omega, fun S5 e5 => fin S5 _ _ ?_ ?_ rfl (nI_1 _)⟩)
      · rw [e5]
        exact fu _ _
      · rw [e5, up_same, e]
        show upd ff (m - 1) 1 = upd ff (m - 1) (zb (ff (m - 1) = 0))
        rw [zb_t e1]
      · rw [e5]
        exact fu _ _
      · rw [e5, up_same, e]
        show upd ff (m - 1) 0 = upd ff (m - 1) (zb (ff (m - 1) = 0))
        rw [zb_f e1]
    · have k1 := c3 hc
      have hm := g5 hc
      obtain ⟨v0, v1, v2, v3⟩ := encO_ne hc g6
      have k1 : S 68 (a + oi) = nI (encO c) := k1
      rw [k1, if_neg v0]
      refine ⟨a + oi, rfl, by omega, ?_⟩
      have em1 : nI m + (-1) = nI (m - 1) := by
        rw [show m = (m - 1) + 1 by omega, pk_m1]
        rfl
      have em2 : nI (m - 1) - (1 : Int32) = nI (m - 2) := pk_sub (a := m - 1) (b := 1) (by omega)
      rw [k1, if_neg v1, if_neg v2, if_neg v3, em1]
      refine ⟨m - 2, em2, by omega, m - 1, rfl, by omega, e_works hc g6 ⟨m - 2, em2, by omega, fun S5 e5 => fin S5 _ _ ?_ ?_ ?_ ?_⟩⟩
      · rw [e5]
        exact fu _ _
      · rw [e5, up_same, e]
        unfold tst
        rw [if_neg (show ¬ c = 0 by omega), if_neg (show ¬ c = 1 by omega), if_neg (show ¬ c = 2 by omega)]
      · unfold tst
        rw [if_neg (show ¬ c = 0 by omega), if_neg (show ¬ c = 1 by omega), if_neg (show ¬ c = 2 by omega)]
      · rw [nI_1, show (if c ≤ 1 then 2 else 1) = 1 from if_neg (by omega)]
        rfl
theorem RuM_ne {b : Bool} {r : Rul} {a0 : Int32} {f : Nat → Int32} (h : RuM b r a0 f) : a0 = -1 ↔ r.1 = 0 := by
  refine ⟨fun e => ?_, h.1⟩
  rcases Nat.eq_zero_or_pos r.1 with h0 | h0
  · exact h0
  · obtain ⟨a, ha, h1400, -⟩ := h.2 h0
    rw [ha] at e
    exact absurd e (oI_ne (by omega))
theorem e_risesBy {p : Nat} {Q : Int32 → St → Prop} (hd : 2 ≤ d) (hL : LM l S) (ho : o ≤ 79) (hA : ScM l (S 77) o A) (hp : p < lp l) (h : ∀ S', Fr [79, 80] S S' → Q (rise l A p) S') : k_m_risesBy E d S (nI o) (nI p) Q := by
  have hr := hL.ok.2.2.2.2.2.2.2.2.1
  have p7 := hL.ok.p7
  have a4 : S 77 (o + 22 + p) = A 4 p := hA 4 p (by decide) hp
  have a1 : S 77 (o + 1 + p) = A 1 p := hA 1 p (by decide) hp
  have a2 : S 77 (o + 8 + p) = A 2 p := hA 2 p (by decide) hp
  have a3 : S 77 (o + 15 + p) = A 3 p := hA 3 p (by decide) hp
  have a0 : S 77 (o + 0) = A 0 0 := hA 0 0 (by decide) (by show 0 < rng l 0; exact Nat.one_pos)
  unfold rise at h
  refine w_m_risesBy (by omega) (ife (fun e => ?_) (fun e => ?_))
  · rw [if_pos ((RuM_ne hL.ri).mp e)] at h
    refine ⟨by omega, ?_⟩
    rw [a4]
    exact h S (Fr.refl _ _)
  · have e : ¬ (lri l).1 = 0 := fun h0 => e ((RuM_ne hL.ri).mpr h0)
    rw [if_neg e] at h
    refine ⟨by omega, fun S1 e1 => ⟨by omega, fun S2 e2 => ⟨by omega, fun S3 e3 => ⟨by omega, fun S4 e4 => ⟨by omega, fun S5 e5 => ?_⟩⟩⟩⟩⟩
    rw [a4] at e1
    rw [e1, up_ne _ _ _ (by decide), a1, ← e1] at e2
    rw [e2, up_ne _ _ _ (by decide), e1, up_ne _ _ _ (by decide), a2, ← e1, ← e2] at e3
    rw [e3, up_ne _ _ _ (by decide), e2, up_ne _ _ _ (by decide), e1, up_ne _ _ _ (by decide), a3, ← e1, ← e2, ← e3] at e4
    rw [e4, up_ne _ _ _ (by decide), e3, up_ne _ _ _ (by decide), e2, up_ne _ _ _ (by decide), e1, up_ne _ _ _ (by decide), a0, ← e1, ← e2, ← e3, ← e4] at e5
    have f5 : Fr [79] S S5 := by
      rw [e5, e4, e3, e2, e1]
      exact ((((Fr.up _ _ (by decide)).trans (Fr.up _ _ (by decide))).trans (Fr.up _ _ (by decide))).trans (Fr.up _ _ (by decide))).trans (Fr.up _ _ (by decide))
    have hv : ∀ k, k < 5 → S5 79 (encV false k) = vRi A p k := by
      intro k hk
      rw [e5, up_same, e4, up_same, e3, up_same, e2, up_same, e1, up_same]
      have : k = 0 ∨ k = 1 ∨ k = 2 ∨ k = 3 ∨ k = 4 := by omega
      rcases this with rfl | rfl | rfl | rfl | rfl <;> rfl
    refine e_reckons (b := false) (r := lri l) (v := vRi A p) (by omega) hr (by omega) ?_ hv (fun S7 f7 => ?_)
    · rw [f5 65 (by decide), f5 68 (by decide)]
      exact hL.ri
    · have F : Fr [79, 80] S S7 := fun k hk => by
        rw [f7 k (fun hm => hk (by simp only [List.mem_cons, List.not_mem_nil, or_false] at hm ⊢; omega)), f5 k (fun hm => hk (by simp only [List.mem_cons, List.not_mem_nil, or_false] at hm ⊢; omega))]
      have h := h S7 F
      unfold bnd at h
      refine w_m_bounded (ife (fun e1 => ife (fun e2 => ?_) (fun e2 => ?_)) (fun e1 => ?_))
      · rw [if_neg (Int32.not_lt.mpr e1), if_neg (Int32.not_lt.mpr e2)] at h
        exact h
      · rw [if_neg (Int32.not_lt.mpr e1), if_pos (Int32.not_le.mp e2)] at h
        exact h
      · rw [if_pos (Int32.not_le.mp e1)] at h
        exact h
theorem e_rises {p oo ss : Nat} {Q : St → Prop} (hd : 4 ≤ d) (hL : LM l S) (ho : o ≤ 79) (hA : ScM l (S 77) o A) (hO : COk l A) (hp : p < lp l) (h47 : S 65 47 = nI oo) (h48 : S 65 48 = nI ss) (h : ∀ S', FM o S S' → ScM l (S' 77) o (pday l p (A, oo, ss)).1 → Ev S S' [45, 46] → S' 65 47 = nI (pday l p (A, oo, ss)).2.1 → S' 65 48 = nI (pday l p (A, oo, ss)).2.2 → Q S') : k_m_rises E d S (nI o) (nI p) Q := by
  have p7 := hL.ok.p7
  refine w_m_rises (by omega) ⟨by omega, e_risesBy (by omega) hL ho hA hp (fun S2 f2 => ?_)⟩
  rw [show S 77 (o + 1 + p) = A 1 p from hA 1 p (by decide) hp]
  refine e_lesser ⟨by omega, fun S5 e5 => ⟨by omega, ?_⟩⟩
  have A2 : ScM l (S2 77) o A := by
    rw [f2 77 (by decide)]
    exact hA
  have A5 := ScM_set (k := 1) (i := p) (v := m99 (A 1 p + rise l A p)) hL.ok A2 (by decide) hp
  have e5 : S5 = up S2 77 (o + offM 1 + p) (m99 (A 1 p + rise l A p)) := e5
  rw [← e5] at A5
  have F5 : FM o S S5 := by
    rw [e5]
    exact (FM_fr f2).trans (FM_row _ _ (by show o ≤ o + 1 + p; omega) (by show o + 1 + p < o + 79; omega))
  have V5 : Ev S S5 [45, 46, 47, 48] := by
    rw [e5]
    exact (Ev_fr f2).trans (Ev_row _ _)
  have L5 := LM_fm hL F5
  unfold pday at h
  simp only at h
  have O5 : COk l (ua A 1 p (m99 (A 1 p + rise l A p))) := COk_of hO (ua5 _ _ (by decide))
  generalize ua A 1 p (m99 (A 1 p + rise l A p)) = B at *
  rw [show S5 77 (o + 1 + p) = B 1 p from A5 1 p (by decide) hp]
  refine ife (fun h20 => ?_) (fun h20 => ?_)
  · rw [if_neg (Int32.not_lt.mpr h20)] at h
    refine e_goesOut (by omega) L5 ho A5 O5 hp (fun B' hg S7 F7 R7 A7 => ?_) (fun hg => ?_)
    · rw [if_neg (by decide)]
      rw [hg] at h
      intro S11 e11
      have x65 : S7 65 = S5 65 := R7 65 (by decide)
      refine h S11 ?_ ?_ ?_ ?_ ?_
      · rw [e11]
        exact (F5.trans F7).trans (FM_ev _ _ (by decide))
      · rw [e11, up_ne _ _ _ (by decide)]
        exact A7
      · rw [e11]
        intro i hi
        rw [Ev_up (l := [45, 46]) 47 _ (by decide) i hi, x65]
        exact V5 i (by simp only [List.mem_cons, List.not_mem_nil, or_false] at hi ⊢; omega)
      · rw [e11, up_same, upd_same, x65, V5 47 (by decide), h47, nI_orb (by omega)]
      · rw [e11, up_same, upd_ne _ _ (by decide), x65, V5 48 (by decide), h48]
    · rw [if_pos rfl]
      rw [hg] at h
      refine ⟨by omega, by omega, fun S8 e8 => ⟨by omega, by omega, fun S9 e9 S10 e10 => ?_⟩⟩
      rw [show S5 77 (o + 1 + p) = B 1 p from A5 1 p (by decide) hp] at e8
      have A8 := ScM_set (k := 1) (i := p) (v := B 1 p / 2) hL.ok A5 (by decide) hp
      have e8 : S8 = up S5 77 (o + offM 1 + p) (B 1 p / 2) := e8
      rw [← e8] at A8
      have x2 : S8 77 (o + 8 + p) = B 2 p := by
        have := A8 2 p (by decide) hp
        rw [ua_ne _ _ _ (by decide)] at this
        exact this
      rw [x2] at e9
      have A9 := ScM_set (k := 2) (i := p) (v := B 2 p + 1) hL.ok A8 (by decide) hp
      have e9 : S9 = up S8 77 (o + offM 2 + p) (B 2 p + 1) := e9
      rw [← e9, ua_comm B (k := 1) (k' := 2) p p _ _ (by decide)] at A9
      have x65 : S9 65 = S5 65 := by
        rw [e9, up_ne _ _ _ (by decide), e8, up_ne _ _ _ (by decide)]
      refine h S10 ?_ ?_ ?_ ?_ ?_
      · rw [e10, e9, e8]
        exact ((F5.trans (FM_row _ _ (by show o ≤ o + 1 + p; omega) (by show o + 1 + p < o + 79; omega))).trans (FM_row _ _ (by show o ≤ o + 8 + p; omega) (by show o + 8 + p < o + 79; omega))).trans (FM_ev _ _ (by decide))
      · rw [e10, up_ne _ _ _ (by decide)]
        exact A9
      · rw [e10]
        intro i hi
        rw [Ev_up (l := [45, 46]) 48 _ (by decide) i hi, x65]
        exact V5 i (by simp only [List.mem_cons, List.not_mem_nil, or_false] at hi ⊢; omega)
      · rw [e10, up_same, upd_ne _ _ (by decide), x65, V5 47 (by decide), h47]
      · rw [e10, up_same, upd_same, x65, V5 48 (by decide), h48, nI_orb (by omega)]
  · rw [if_pos (Int32.not_le.mp h20)] at h
    exact h S5 F5 A5 (fun i hi => V5 i (by simp only [List.mem_cons, List.not_mem_nil, or_false] at hi ⊢; omega)) (by rw [V5 47 (by decide)]; exact h47) (by rw [V5 48 (by decide)]; exact h48)
theorem e_bursts {x : Nat} {Q : Int32 → St → Prop} (hd : 3 ≤ d) (hL : LM l S) (ho : o ≤ 79) (hA : ScM l (S 77) o A) (hO : COk l A) (hx : x < lb l) (h : ∀ S', Fr [79, 80] S S' → Q (zb (rip l A x = true)) S') : k_m_bursts E d S (nI o) (nI x) Q := by
  have hr := hL.ok.2.2.2.2.2.2.2.2.2
  have b10 := hL.ok.b10
  have a6 : S 77 (o + 39 + x) = A 6 x := hA 6 x (by decide) hx
  have a7 : S 77 (o + 49 + x) = A 7 x := hA 7 x (by decide) hx
  have a0 : S 77 (o + 0) = A 0 0 := hA 0 0 (by decide) (by show 0 < rng l 0; exact Nat.one_pos)
  unfold rip at h
  refine w_m_bursts (by omega) (ife (fun e => ?_) (fun e => ?_))
  · simp only [if_pos ((RuM_ne hL.bu).mp e)] at h
    refine ⟨by omega, ?_⟩
    rw [a7]
    have h := h S (Fr.refl _ _)
    refine ife (fun e => ?_) (fun e => ?_)
    · rw [zb_f (by rw [decide_eq_true_eq]; exact Int32.not_le.mpr e)] at h
      exact h
    · rw [zb_t (by rw [decide_eq_true_eq]; exact Int32.not_lt.mp e)] at h
      exact h
  · have e : ¬ (lbu l).1 = 0 := fun h0 => e ((RuM_ne hL.bu).mpr h0)
    simp only [if_neg e] at h
    refine dn (P := fun k => k_m_bursts_35 E d S o x (nI (num (nearF l A x) k)) k Q) (lb l) ?_ ?_ 0 (Nat.zero_le _)
    · refine w_m_bursts_35 (by omega) (ilp (lb l) hL.b (by omega) (by omega) (fun _ => ?_) (fun h => absurd h (Nat.lt_irrefl _)))
      refine ⟨by omega, fun S1 e1 => ⟨by omega, fun S2 e2 => ⟨by omega, fun S3 e3 S4 e4 => ⟨by omega, fun S5 e5 => ?_⟩⟩⟩⟩
      rw [a6] at e1
      rw [e1, up_ne _ _ _ (by decide), hL.sz hx, ← e1] at e2
      rw [e2, up_ne _ _ _ (by decide), e1, up_ne _ _ _ (by decide), a7, ← e1, ← e2] at e3
      rw [e4, up_ne _ _ _ (by decide), e3, up_ne _ _ _ (by decide), e2, up_ne _ _ _ (by decide), e1, up_ne _ _ _ (by decide), a0, ← e1, ← e2, ← e3, ← e4] at e5
      have f5 : Fr [79] S S5 := by
        rw [e5, e4, e3, e2, e1]
        exact ((((Fr.up _ _ (by decide)).trans (Fr.up _ _ (by decide))).trans (Fr.up _ _ (by decide))).trans (Fr.up _ _ (by decide))).trans (Fr.up _ _ (by decide))
      have hv : ∀ k, k < 5 → S5 79 (encV true k) = vBu l A x k := by
        intro k hk
        rw [e5, up_same, e4, up_same, e3, up_same, e2, up_same, e1, up_same]
        have : k = 0 ∨ k = 1 ∨ k = 2 ∨ k = 3 ∨ k = 4 := by omega
        rcases this with rfl | rfl | rfl | rfl | rfl <;> rfl
      refine e_reckons (b := true) (r := lbu l) (v := vBu l A x) (by omega) hr (by omega) ?_ hv (fun S7 f7 => ?_)
      · rw [f5 65 (by decide), f5 68 (by decide)]
        exact hL.bu
      · have F : Fr [79, 80] S S7 := fun k hk => by
          rw [f7 k (fun hm => hk (by simp only [List.mem_cons, List.not_mem_nil, or_false] at hm ⊢; omega)), f5 k (fun hm => hk (by simp only [List.mem_cons, List.not_mem_nil, or_false] at hm ⊢; omega))]
        have h := h S7 F
        refine ife (fun e => ?_) (fun e => ?_)
        · rw [zb_f (by rw [decide_eq_true_eq]; exact Int32.not_lt.mpr e)] at h
          exact h
        · rw [zb_t (by rw [decide_eq_true_eq]; exact Int32.not_le.mp e)] at h
          exact h
    · intro k hk ih
      refine w_m_bursts_35 (by omega) (ilp (lb l) hL.b (by omega) (by omega) (fun h => by omega) (fun _ => ?_))
      have en : num (nearF l A x) (k + 1) = if nearF l A x k then num (nearF l A x) k + 1 else num (nearF l A x) k := rfl
      rw [en] at ih
      rw [show nI (num (nearF l A x) k) + (0 : Int32) = nI (num (nearF l A x) k) from nI_add _ 0]
      refine ife (fun ek => ?_) (fun ek => ?_)
      · have ek : k = x := (nI_eq (by omega) (by omega)).mp ek
        rw [if_neg (by simp [nearF, ek])] at ih
        exact ih
      · have ek : ¬ k = x := fun e2 => ek (by rw [e2])
        refine e_isWhite hL.ok ho hA hk (izb (fun hw => ?_) (fun hw => ?_))
        · rw [if_neg (by simp [nearF, held, hw])] at ih
          exact ih
        · refine ⟨by omega, ?_⟩
          rw [show S 77 (o + 29 + k) = A 5 k from hA 5 k (by decide) hk]
          refine e_isIn (by omega) hL ho hA hO hx (hO k hk).1 (hO k hk).2 (izb (fun hr => ?_) (fun hr => ?_))
          · rw [if_pos (by simp [nearF, held, hw, ek, hr])] at ih
            rw [nI_1]
            exact ih
          · rw [if_neg (by simp [nearF, hr])] at ih
            exact ih
end MP
