/-! BOYS: how likely one is white by boys who tread -/
noncomputable def bTr (l : Lnd) (A : Scn) : Scn := match fulB l A (grdM l A) with
  | none => A
  | some x => goOff l A (2 ^ x)
noncomputable def bSc (l : Lnd) (A : Scn) (way : Nat) : Nat → Scn
  | 0 => A
  | k + 1 => (dayF l (if way.testBit k then bTr l (bSc l A way k) else bSc l A way k)).1
def bWt (t way : Nat) : Nat → Nat
  | 0 => 1
  | k + 1 => bWt t way k * (if way.testBit k then t else 10 - t)
noncomputable def bCo (l : Lnd) (A : Scn) (x n t way : Nat) : Int32 := if bSc l A way n 6 x = 0 then nI (bWt t way n) else 0
noncomputable def bSum (l : Lnd) (A : Scn) (x n t : Nat) : Nat → Int32
  | 0 => 0
  | m + 1 => bSum l A x n t m + bCo l A x n t m
def ngR (lo hi : Nat) (a : Int32) : Bool := decide (a < nI lo ∨ nI (hi + 1) ≤ a)
def cBoys (G : Gst) (a b c : Int32) : Nat := cd3 (ng (lb (gl G)) a) false (ngR 1 5 b || ngR 0 10 c)
noncomputable def vBoys (G : Gst) (a b c : Int32) : Int32 := bSum (gl G) (gA G) (tN a) (tN b) (tN c) (2 ^ tN b)
theorem ful_ok {l : Lnd} {A : Scn} {x : Nat} (h : fulB l A (grdM l A) = some x) : x < lb l ∧ ¬ A 6 x = 0 := by
  have := bstF_lt _ _ h
  refine ⟨this.1, ?_⟩
  have h2 := this.2
  simp only [Bool.and_eq_true] at h2
  exact of_decide_eq_true h2.1
section BO
variable {l : Lnd} {A : Scn}
theorem AOk_bTr (hl : LOk l) (h : AOk l A) : AOk l (bTr l A) := by
  unfold bTr
  split
  · exact h
  · exact AOk_goOff hl h _
theorem AOk_bSc (hl : LOk l) (h : AOk l A) (way : Nat) : ∀ k, AOk l (bSc l A way k)
  | 0 => h
  | k + 1 => by
    have ih := AOk_bSc hl h way k
    rw [bSc]
    refine AOk_day hl ?_
    split
    · exact AOk_bTr hl ih
    · exact ih
theorem bWt_le {t way : Nat} (ht : t ≤ 10) : ∀ k, bWt t way k ≤ 10 ^ k
  | 0 => Nat.le_refl _
  | k + 1 => by
    have ih := bWt_le (way := way) ht k
    rw [bWt, Nat.pow_succ]
    refine Nat.mul_le_mul ih ?_
    split <;> omega
theorem bWt_5 {t way k : Nat} (ht : t ≤ 10) (hk : k ≤ 5) : bWt t way k ≤ 100000 := Nat.le_trans (bWt_le ht k) (Nat.pow_le_pow_right (n := 10) (by decide) hk)
theorem bWt_0 {t way : Nat} {k : Nat} (h : bWt t way k = 0) : ∀ n, k ≤ n → bWt t way n = 0 := fun n hn => by
  induction hn with
  | refl => exact h
  | step _ ih =>
    rw [bWt, ih, Nat.zero_mul]
end BO
section BC
variable {l : Lnd} {S : St} {E : zX} {d : Nat} {A : Scn}
/-- boys tread, in the class -/
theorem c_whiteByBoys {x n t : Nat} {Q : Int32 → St → Prop} (hd : 7 ≤ d) (hL : LC l S) (hA : ScC l (S 26) A) (hO : AOk l A) (hx : x < lb l) (hn : n ≤ 5) (ht : t ≤ 10) (h : ∀ S' : St, Fr (dl 61) S S' → Q (bSum l A x n t (2 ^ n)) S') : k_Chance_whiteByBoys E d S (nI x) (nI n) (nI t) Q := by
  have b10 := hL.ok.b10
  have lc : ∀ S' : St, Fr (dl 61) S S' → LC l S' := fun S' f => LC_dl sc61 hL f
  have pn : 2 ^ n ≤ 32 := Nat.pow_le_pow_right (n := 2) (by decide) hn
  refine w_Chance_whiteByBoys (by omega) ?_
  refine dn (P := fun m => ∀ S' : St, Fr (dl 61) S S' → k_Chance_whiteByBoys_6 E d S' x n (nI t) (bSum l A x n t m) m Q) (2 ^ n) ?_ ?_ 0 (Nat.zero_le _) S (Fr.refl _ _)
  · intro S' f
    refine w_Chance_whiteByBoys_6 (by omega) ?_
    rw [bt_eq n (by omega), if_pos (Int32.le_refl _)]
    exact h S' f
  · intro m hm ih S' f
    refine w_Chance_whiteByBoys_6 (by omega) ?_
    rw [bt_eq n (by omega), if_neg (nI_ge hm (by omega))]
    have A' : ScC l (S' 26) A := by
      rw [f 26 (by decide)]
      exact hA
    refine c_copy (q := 61) (q' := 25) (by omega) hL.ok sc61 sc25 A' (fun S2 f2 A2 => ?_)
    have F2 : Fr (dl 61) S S2 := f.trans (f2.mono (by decide))
    have l141 : ∀ (S3 : St) (B : Scn) (w : Nat), Fr (dl 61) S S3 → ScC l (S3 62) B → (if B 6 x = 0 then nI w else 0) = bCo l A x n t m → k_Chance_whiteByBoys_141 E d S3 x n (nI t) (bSum l A x n t m) m (nI w) Q := fun S3 B w f3 A3 hc => by
      have ih := ih S3 f3
      rw [bSum, ← hc] at ih
      refine w_Chance_whiteByBoys_141 (by omega) (c_isWhite hL.ok sc61 A3 hx (izb (fun e => ?_) (fun e => ?_)))
      · rw [if_pos e] at ih
        exact ih
      · rw [if_neg e, Int32.add_zero] at ih
        exact ih
    refine dn (P := fun k => ∀ S3 : St, Fr (dl 61) S S3 → ScC l (S3 62) (bSc l A m k) → k_Chance_whiteByBoys_31 E d S3 x n (nI t) (bSum l A x n t m) m (nI (bWt t m k)) k Q) n ?_ ?_ 0 (Nat.zero_le _) S2 F2 A2
    · intro S3 f3 A3
      refine w_Chance_whiteByBoys_31 (by omega) ?_
      rw [if_pos (Int32.le_refl _)]
      exact l141 S3 _ _ f3 A3 rfl
    · intro k hk ihk S3 f3 A3
      have wb := bWt_5 (way := m) ht (show k ≤ 5 by omega)
      refine w_Chance_whiteByBoys_31 (by omega) ?_
      rw [if_neg (nI_ge hk (by omega))]
      refine ife (fun e => ?_) (fun e => ?_)
      · have e : nI (bWt t m k) ≤ nI 0 := e
        rw [nI_leI (by omega) (by omega)] at e
        have w0 : bWt t m k = 0 := by omega
        refine l141 S3 _ _ f3 A3 ?_
        unfold bCo
        rw [w0, bWt_0 w0 n (by omega)]
        show (if _ then (0 : Int32) else 0) = (if _ then (0 : Int32) else 0)
        split <;> split <;> rfl
      · have o3 := AOk_bSc hL.ok hO m k
        have l74 : ∀ (u : Nat) (tr : Bool), m.testBit k = tr → bWt t m k * u = bWt t m (k + 1) → k_Chance_whiteByBoys_74 E d S3 x n (nI t) (bSum l A x n t m) m k (if tr then 1 else 0) (nI (bWt t m k)) (nI u) Q := fun u tr htr hu => by
          have day : ∀ (S4 : St) (B : Scn), Fr (dl 61) S S4 → ScC l (S4 62) B → AOk l B → (if m.testBit k then bTr l (bSc l A m k) else bSc l A m k) = B → k_Downs_passDay E (d - 1) S4 61 (fun S6 => k_Chance_whiteByBoys_31 E d S6 x n (nI t) (bSum l A x n t m) m (nI (bWt t m k) * nI u) (k + 1) Q) := fun S4 B f4 A4 o4 eB => by
            refine c_passDay (q := 61) (by omega) (lc S4 f4) sc61 A4 (o4.cell hL.ok) (fun S5 f5 A5 _ _ _ => ?_)
            rw [pk_mul, hu]
            refine ihk S5 (f4.trans f5) ?_
            rw [bSc, eB]
            exact A5
          refine w_Chance_whiteByBoys_74 (by omega) (c_guards sc61 A3 (c_fullest (by omega) (lc S3 f3) sc61 A3 ?_))
          cases tr with
          | false =>
            rw [if_pos (show (if false = true then (1 : Int32) else 0) = 0 by decide)]
            exact day S3 _ f3 A3 o3 (if_neg (by rw [htr]; decide))
          | true =>
            rw [if_neg (show ¬ (if true = true then (1 : Int32) else 0) = 0 by decide)]
            cases ef : fulB l (bSc l A m k) (grdM l (bSc l A m k)) with
            | none =>
              rw [if_pos (show oI none = -1 from rfl)]
              refine day S3 _ f3 A3 o3 ?_
              rw [if_pos htr]
              unfold bTr
              rw [ef]
            | some y =>
              have fy := ful_ok ef
              have := fy.1
              rw [if_neg (show ¬ oI (some y) = -1 from oI_ne (show y < 2 ^ 31 by omega))]
              show k_Downs_burst E (d - 1) S3 61 ((1 : Int32) <<< (nI y &&& 31)) _
              rw [show (1 : Int32) <<< (nI y &&& 31) = nI (2 ^ y) from bt_eq y (by omega)]
              refine c_burst (q := 61) (by omega) (lc S3 f3) sc61 A3 (o3.cell hL.ok) (sub_p2 fy.1 fy.2) (fun S4 f4 A4 => ?_)
              have eb : (bst l (bSc l A m k) (2 ^ y)).1 = goOff l (bSc l A m k) (2 ^ y) := by
                unfold bst
                rw [if_neg (Nat.pos_iff_ne_zero.mp (Nat.pow_pos (by decide)))]
              rw [eb] at A4
              refine day S4 _ (f3.trans (f4.mono (by decide))) A4 (AOk_goOff hL.ok o3 _) ?_
              rw [if_pos htr]
              unfold bTr
              rw [ef]
        refine ife (fun g => ?_) (fun g => ?_)
        · rw [nI_tst (by omega)] at g
          rw [show (10 : Int32) = nI 10 from rfl, pk_sub ht]
          exact l74 (10 - t) false g (by rw [bWt, if_neg (by rw [g]; decide)])
        · rw [nI_tst (by omega)] at g
          have g : m.testBit k = true := by simpa using g
          exact l74 t true g (by rw [bWt, if_pos g])
end BC
section BX
variable {G : Gst} {S : St} {E : zX} {d : Nat} {Q : Int32 → St → Prop} {X : Nat → St → Prop}
theorem ngR_f {lo hi x : Nat} (h0 : lo ≤ x) (hx : x ≤ hi) (hh : hi < 1000) : ngR lo hi (nI x) = false := decide_eq_false (fun h => by
  rcases h with h | h
  · exact nI_nlt h0 (by omega) h
  · exact nI_ge (b := hi + 1) (by omega) (by omega) h)
theorem x_boys {a b c : Int32} (hd : 20 ≤ d) (hG : GInv G) (hR : RelC G S) (hn : (S 1000 0).toNatClampNeg < 1000000) (h : cBoys G a b c = 0 → ∀ S', QC S S' → Q (vBoys G a b c) S') (hX : ∀ k, cBoys G a b c = k + 1 → X k (upT S)) : k_x_boys E d S a b c Q X := by
  have b10 := hG.1.b10
  refine w_x_boys (by omega) (n_ball (by omega) hR.lc hn (fun x hx ea => ?_) (fun e => hX 0 (by unfold cBoys cd3; rw [e]; rfl)))
  subst ea
  have e1 := ng_f (n := lb (gl G)) (x := x) (by omega) hx
  have bad : (ngR 1 5 b || ngR 0 10 c) = true → (S 1000 0).toNatClampNeg < 1000000 ∧ X 1 (upT S) := fun e => ⟨hn, hX 1 (by unfold cBoys cd3; rw [e1, e]; rfl)⟩
  have bb : ∀ {lo hi : Nat} {v : Int32}, (v < nI lo ∨ nI (hi + 1) ≤ v) → ngR lo hi v = true := fun hv => decide_eq_true hv
  refine ife (fun e => bad (by rw [bb (lo := 1) (hi := 5) (Or.inl e)]; rfl)) (fun g1 => ?_)
  refine ife (fun e => bad (by rw [bb (lo := 1) (hi := 5) (Or.inr ((lt_le (n := 5) (by omega)).mp e))]; rfl)) (fun g2 => ?_)
  refine ife (fun e => bad (by rw [bb (lo := 0) (hi := 10) (v := c) (Or.inl e), Bool.or_true])) (fun g3 => ?_)
  refine ife (fun g4 => ?_) (fun e => bad (by rw [bb (lo := 0) (hi := 10) (v := c) (Or.inr ((lt_le (n := 10) (by omega)).mp (Int32.not_le.mp e))), Bool.or_true]))
  rcases pk_ix b (n := 6) (by omega) with g | g | ⟨n, hn6, eb⟩
  · exact absurd (Int32.lt_of_lt_of_le g (nI_pos' (n := 1) (by omega))) g1
  · exact absurd ((lt_le (n := 5) (by omega)).mpr g) g2
  subst eb
  have n1 : 1 ≤ n := by
    have g1 : ¬ nI n < nI 1 := g1
    rw [nI_ltI (by omega) (by omega)] at g1
    omega
  rcases pk_ix c (n := 11) (by omega) with g | g | ⟨t, ht, ec⟩
  · exact absurd g g3
  · exact absurd g4 (Int32.not_le.mpr ((lt_le (n := 10) (by omega)).mpr g))
  subst ec
  have h := h (by unfold cBoys cd3; rw [e1, ngR_f n1 (by omega) (by omega), ngR_f (Nat.zero_le _) (by omega) (by omega)]; rfl)
  unfold vBoys at h
  rw [tN_nI (by omega), tN_nI (by omega), tN_nI (by omega)] at h
  exact c_whiteByBoys (by omega) hR.lc hR.sc hG.aok hx (by omega) (by omega) (fun S' f => h S' (QC_dl f (by omega)))
end BX
section BM
variable {l : Lnd} {S : St} {E : zX} {d : Nat} {A : Scn}
theorem e_treads {Q : St → Prop} (hd : 6 ≤ d) (hL : LM l S) (hA : ScM l (S 77) 79 A) (hO : COk l A) (hG : GOk l A) (h : ∀ S' : St, FM 79 S S' → ScM l (S' 77) 79 (bTr l A) → Q S') : k_m_treads E d S Q := by
  have b10 := hL.ok.b10
  refine w_m_treads (by omega) ?_
  refine dn (P := fun k => k_m_treads_4 E d S (oI (bstF (fun x => held A x && !(grdM l A).testBit x) (fun x y => decide (A 6 y < A 6 x)) k)) k Q) (lb l) ?_ ?_ 0 (Nat.zero_le _)
  · refine w_m_treads_4 (by omega) (ilp (lb l) hL.b (by omega) (by omega) (fun _ => ?_) (fun h => absurd h (Nat.lt_irrefl _)))
    rw [show bstF (fun x => held A x && !(grdM l A).testBit x) (fun x y => decide (A 6 y < A 6 x)) (lb l) = fulB l A (grdM l A) from rfl]
    cases ef : fulB l A (grdM l A) with
    | none =>
      rw [if_pos (show oI none = -1 from rfl)]
      refine h S (FM.refl _ _) ?_
      unfold bTr
      rw [ef]
      exact hA
    | some y =>
      have fy := ful_ok ef
      have := fy.1
      rw [if_neg (show ¬ oI (some y) = -1 from oI_ne (show y < 2 ^ 31 by omega))]
      show k_m_goOff E (d - 1) S 79 ((1 : Int32) <<< (nI y &&& 31)) _
      rw [show (1 : Int32) <<< (nI y &&& 31) = nI (2 ^ y) from bt_eq y (by omega)]
      refine e_goOff (o := 79) (by omega) hL (by omega) hA hO hG (Nat.pow_lt_pow_right (by decide) fy.1) (fun S' f A' _ _ _ _ => h S' f ?_)
      unfold bTr
      rw [ef]
      exact A'
  · intro k hk ih
    have ih : k_m_treads_4 E d S (oI (bstS (fun x => held A x && !(grdM l A).testBit x) (fun x y => decide (A 6 y < A 6 x)) k (bstF (fun x => held A x && !(grdM l A).testBit x) (fun x y => decide (A 6 y < A 6 x)) k))) (k + 1) Q := ih
    have hlt := bstF_lt (ok := fun x => held A x && !(grdM l A).testBit x) (lt := fun x y => decide (A 6 y < A 6 x)) k
    generalize hb : bstF (fun x => held A x && !(grdM l A).testBit x) (fun x y => decide (A 6 y < A 6 x)) k = b at ih hlt ⊢
    refine w_m_treads_4 (by omega) (ilp (lb l) hL.b (by omega) (by omega) (fun h => by omega) (fun _ => ?_))
    refine e_mayTread (o := 79) (by omega) hL.ok (by omega) hA hG hk (izb (fun e => ?_) (fun e => ?_))
    · unfold bstS at ih
      rw [if_pos (show (held A k && !(grdM l A).testBit k) = true by rw [grd_bit hk]; simp [held, e.1, e.2])] at ih
      cases b with
      | none =>
        rw [if_pos (show oI none = -1 from rfl)]
        exact ih
      | some y =>
        have hy := (hlt y rfl).1
        rw [if_neg (show ¬ oI (some y) = -1 from oI_ne (show y < 2 ^ 31 by omega))]
        refine ⟨by omega, 118 + y, nI_add 118 y, by omega, ?_⟩
        rw [show S 77 (118 + k) = A 6 k from hA 6 k (by decide) hk, show S 77 (118 + y) = A 6 y from hA 6 y (by decide) (by show y < lb l; omega)]
        simp only at ih
        refine ife (fun hc => ?_) (fun hc => ?_)
        · rw [if_neg (by rw [decide_eq_true_eq]; exact Int32.not_lt.mpr hc)] at ih
          exact ih
        · rw [if_pos (by rw [decide_eq_true_eq]; exact Int32.not_le.mp hc)] at ih
          exact ih
    · unfold bstS at ih
      rw [if_neg (show ¬ (held A k && !(grdM l A).testBit k) = true by
        rw [grd_bit hk]
        intro hh
        simp only [Bool.and_eq_true, Bool.not_eq_true', held] at hh
        exact e ⟨of_decide_eq_true hh.1, of_decide_eq_false hh.2⟩)] at ih
      exact ih
end BM
section BN
variable {G : Gst} {S : St} {E : zX} {d : Nat} {Q : Int32 → St → Prop}
theorem e_withinR {lo hi : Nat} {a : Int32} {Q : Int32 → St → Prop} (hlo : lo < 1000) (hh : hi < 1000) (h1 : ∀ x, lo ≤ x → x ≤ hi → a = nI x → Q 1 S) (h0 : ngR lo hi a = true → Q 0 S) : k_m_within E d S a (nI lo) (nI hi) Q := by
  refine w_m_within (ife (fun e => h0 (decide_eq_true (Or.inl e))) (fun e => ife (fun e2 => h0 (decide_eq_true (Or.inr ((lt_le (n := hi) (by omega)).mp e2)))) (fun e2 => ?_)))
  rcases pk_ix a (n := hi + 1) (by omega) with g | g | ⟨n, hn, rfl⟩
  · exact absurd (Int32.lt_of_lt_of_le g (nI_pos' (n := lo) (by omega))) e
  · exact absurd ((lt_le (n := hi) (by omega)).mpr g) e2
  · refine h1 n ?_ (by omega) rfl
    rcases Nat.lt_or_ge n lo with h | h
    · exact absurd (nI_lt h (by omega)) e
    · exact h
theorem e_right0 {Q : Int32 → St → Prop} {v : Int32} (h0 : S 65 0 = 0) (hv : ¬ v = 0) (h : Q 0 (up S 65 0 v)) : k_m_right E d S 0 v Q := by
  refine w_m_right ?_
  rw [h0, if_pos rfl, if_pos rfl]
  intro S1 e1
  have t1 : S1 65 0 = v := by rw [e1, up_same, upd_same]
  rw [t1, if_neg hv, e1]
  exact h
theorem e_right1 {Q : Int32 → St → Prop} {v : Int32} (h0 : S 65 0 = 0) (h : Q 1 S) : k_m_right E d S 1 v Q := by
  refine w_m_right ?_
  rw [h0, if_pos rfl, if_neg (by decide), if_pos rfl]
  exact h
theorem m_boys {a b c : Int32} (hd : 20 ≤ d) (hG : GInv G) (hR : RelM G S) (h : ∀ S' v, QM S S' → S' 65 0 = nI (cBoys G a b c) → (cBoys G a b c = 0 → v = vBoys G a b c) → Q v S') : k_m_boys E d S a b c Q := by
  have b10 := hG.1.b10
  refine w_m_boys (by omega) (fun S1 e1 => ?_)
  have q1 : QM S S1 := by
    rw [e1]
    exact QM_up _ (by decide)
  have t1 : S1 65 0 = 0 := by rw [e1, up_same, upd_same]
  have L1 := LM_qm hR.lm q1
  have A1 : ScM (gl G) (S1 77) 0 (gA G) := ScM_lo hG.1 hR.sc (fun i hi => q1.2.2 i hi)
  refine e_isBall (by omega) L1 t1 (fun x hx ea => ?_) (fun e => ?_)
  · subst ea
    have g1 := ng_f (n := lb (gl G)) (x := x) (by omega) hx
    rw [if_neg (by decide)]
    have bad : (ngR 1 5 b || ngR 0 10 c) = true → k_m_boys_37 E d S1 (nI x) b c Q := fun e => by
      refine w_m_boys_37 (by omega) (e_right0 (v := 2) t1 (by decide) ?_)
      rw [if_pos rfl]
      have hc : cBoys G (nI x) b c = 2 := by unfold cBoys cd3; rw [g1, e]; rfl
      exact h _ _ (q1.trans (QM_up _ (by decide))) (by rw [up_same, upd_same, hc]; rfl) (fun h0 => by rw [hc] at h0; cases h0)
    refine e_withinR (lo := 1) (hi := 5) (by omega) (by omega) (fun n n1 n5 eb => ?_) (fun e => ?_)
    · subst eb
      rw [if_neg (by decide)]
      refine e_withinR (lo := 0) (hi := 10) (by omega) (by omega) (fun t _ t10 ec => ?_) (fun e => ?_)
      · subst ec
        rw [if_neg (by decide)]
        refine e_right1 t1 ?_
        rw [if_neg (by decide)]
        have hc : cBoys G (nI x) (nI n) (nI t) = 0 := by unfold cBoys cd3; rw [g1, ngR_f n1 n5 (by omega), ngR_f (Nat.zero_le _) t10 (by omega)]; rfl
        rw [hc] at h
        unfold vBoys at h
        rw [tN_nI (by omega), tN_nI (by omega), tN_nI (by omega)] at h
        have pn : 2 ^ n ≤ 32 := Nat.pow_le_pow_right (n := 2) (by decide) n5
        refine dn (P := fun m => ∀ S' : St, FM 79 S1 S' → k_m_boys_53 E d S' (nI x) (nI n) (nI t) (bSum (gl G) (gA G) x n t m) m Q) (2 ^ n) ?_ ?_ 0 (Nat.zero_le _) S1 (FM.refl _ _)
        · intro S' f
          refine w_m_boys_53 (by omega) ?_
          rw [show (1 : Int32) <<< (nI n &&& 31) = nI (2 ^ n) from bt_eq n (by omega), if_pos (Int32.le_refl _)]
          exact h S' _ (q1.trans (QM_fm f)) (by rw [f.2.1 0 (by decide), t1]; rfl) (fun _ => rfl)
        · intro m hm ih S' f
          refine w_m_boys_53 (by omega) ?_
          rw [show (1 : Int32) <<< (nI n &&& 31) = nI (2 ^ n) from bt_eq n (by omega), if_neg (nI_ge hm (by omega))]
          have A' : ScM (gl G) (S' 77) 0 (gA G) := ScM_lo hG.1 A1 (fun i hi => f.2.2 i (Or.inl hi))
          refine e_tries hG.1 A' (fun S2 f2 A2 _ => ?_)
          refine dn (P := fun k => ∀ S3 : St, FM 79 S1 S3 → ScM (gl G) (S3 77) 79 (bSc (gl G) (gA G) m k) → k_m_boys_71 E d S3 (nI x) (nI n) (nI t) (bSum (gl G) (gA G) x n t m) m (nI (bWt t m k)) k Q) n ?_ ?_ 0 (Nat.zero_le _) S2 (f.trans f2) A2
          · intro S3 f3 A3
            refine w_m_boys_71 (by omega) ?_
            rw [if_pos (Int32.le_refl _)]
            have ih := ih S3 f3
            rw [bSum] at ih
            unfold bCo at ih
            refine e_isWhite (o := 79) hG.1 (by omega) A3 hx (izb (fun e => ?_) (fun e => ?_))
            · rw [if_pos e] at ih
              exact ih
            · rw [if_neg e] at ih
              exact ih
          · intro k hk ihk S3 f3 A3
            have o3 := AOk_bSc hG.1 hG.aok m k
            have L3 := LM_fm L1 f3
            have day : ∀ (S4 : St) (B : Scn) (u : Nat), FM 79 S1 S4 → ScM (gl G) (S4 77) 79 B → AOk (gl G) B → (if m.testBit k then bTr (gl G) (bSc (gl G) (gA G) m k) else bSc (gl G) (gA G) m k) = B → bWt t m k * u = bWt t m (k + 1) → k_m_dayOf E (d - 1) S4 79 (fun S6 => k_m_boys_71 E d S6 (nI x) (nI n) (nI t) (bSum (gl G) (gA G) x n t m) m (nI (bWt t m k) * nI u) (k + 1) Q) := fun S4 B u f4 A4 o4 eB hu => by
              refine e_dayOf (o := 79) (by omega) (LM_fm L1 f4) (by omega) A4 (o4.cell hG.1) o4.grd (fun S5 f5 A5 _ _ _ _ => ?_)
              rw [pk_mul, hu]
              refine ihk S5 (f4.trans f5) ?_
              rw [bSc, eB]
              exact A5
            refine w_m_boys_71 (by omega) ?_
            rw [if_neg (nI_ge hk (by omega)), nI_sbit (by omega) (by omega)]
            refine ife (fun g => ?_) (fun g => ?_)
            · rw [zb_1] at g
              refine w_m_boys_110 (by omega) ?_
              rw [if_neg (by decide)]
              refine e_treads (by omega) L3 A3 (o3.cell hG.1) o3.grd (fun S4 f4 A4 => ?_)
              exact day S4 _ t (f3.trans f4) A4 (AOk_bTr hG.1 o3) (if_pos g) (by rw [bWt, if_pos g])
            · rw [zb_1] at g
              refine w_m_boys_110 (by omega) ?_
              rw [if_pos rfl, show (10 : Int32) = nI 10 from rfl, pk_sub t10]
              exact day S3 _ (10 - t) f3 A3 o3 (if_neg g) (by rw [bWt, if_neg g])
      · rw [if_pos rfl]
        exact bad (by rw [e, Bool.or_true])
    · rw [if_pos rfl]
      exact bad (by rw [e]; rfl)
  · rw [if_pos rfl]
    have hc : cBoys G a b c = 1 := by unfold cBoys cd3; rw [show ng (lb (gl G)) a = true from decide_eq_true e]; rfl
    refine h _ _ (q1.trans (QM_up _ (by decide))) (by rw [up_same, upd_same, hc]; rfl) (fun h0 => by rw [hc] at h0; cases h0)
end BN
