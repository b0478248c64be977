/-! PUT BY in the reference -/
section PUM
variable {l : Lnd} {S : St} {E : zX} {d : Nat} {A : Scn}
theorem wht_bit {x : Nat} : (whtM l A).testBit x = true ↔ x < lb l ∧ A 6 x = 0 := by
  unfold whtM
  rw [mkN_bit]
  simp
theorem wt_bit {x T : Nat} : (sdf (whtM l A) T).testBit x = true ↔ x < lb l ∧ A 6 x = 0 ∧ T.testBit x = false := by
  rw [sdf_bit, Bool.and_eq_true, wht_bit]
  simp
  constructor
  · intro ⟨⟨a, b⟩, c⟩
    exact ⟨a, b, c⟩
  · intro ⟨a, b, c⟩
    exact ⟨⟨a, b⟩, c⟩
theorem wt_in {T : Nat} (x : Nat) (h : (sdf (whtM l A) T).testBit x = true) : x < lb l := (wt_bit.mp h).1
theorem tm_pos {p : Nat} (hO : AOk l A) (hp : p < lp l) : (A 1 p ≤ 0 ↔ ¬ 0 < tmf A p) := by
  have := tmf_ok hO hp
  rw [this.1, show (0 : Int32) = nI 0 from rfl, nI_leI (by omega) (by omega)]
  omega
theorem e_canPut {p x T : Nat} {Q : Int32 → St → Prop} (hd : 2 ≤ d) (hL : LM l S) (hA : ScM l (S 77) 0 A) (hO : AOk l A) (hp : p < lp l) (hx : x < lb l) (hT : T < 2 ^ 31) (h : Q (zb ((sdf (whtM l A) T).testBit x = true ∧ 0 < tmf A p ∧ tmf A p ≤ lsz l x)) S) : k_m_canPut E d S (nI p) (nI x) (nI T) Q := by
  have p7 := hL.ok.p7
  have b10 := hL.ok.b10
  have g1 := tmf_ok hO hp
  have g2 := hL.ok.2.2.2.2.2.2.2.1 x hx
  have r77 : S 77 (1 + p) = A 1 p := by
    have := hA 1 p (by decide) hp
    rw [show 0 + offM 1 + p = 1 + p from by show 0 + 1 + p = 1 + p; omega] at this
    exact this
  refine w_m_canPut (by omega) ?_
  rw [nI_sbit hT (by omega)]
  refine izb (fun e => ?_) (fun e => ⟨by omega, ?_⟩)
  · rw [zb_f (fun c => by rw [(wt_bit.mp c.1).2.2] at e; cases e)] at h
    exact h
  · rw [r77]
    refine ife (fun t => ?_) (fun t => ?_)
    · rw [tm_pos hO hp] at t
      rw [zb_f (fun c => t c.2.1)] at h
      exact h
    · rw [tm_pos hO hp] at t
      refine e_isWhite (o := 0) hL.ok (by omega) hA hx (izb (fun w => ⟨by omega, by omega, ?_⟩) (fun w => ?_))
      · rw [hL.sz hx, r77, g1.1]
        refine ife (fun u => ?_) (fun u => ?_)
        · rw [nI_ltI (by omega) (by omega)] at u
          rw [zb_f (fun c => by omega)] at h
          exact h
        · rw [nI_ltI (by omega) (by omega)] at u
          rw [zb_t ⟨wt_bit.mpr ⟨hx, w, by simpa using e⟩, by omega, by omega⟩] at h
          exact h
      · rw [zb_f (fun c => w (wt_bit.mp c.1).2.1)] at h
        exact h
theorem or_lt {T x n : Nat} (hT : T < 2 ^ n) (hx : x < n) : T ||| 2 ^ x < 2 ^ n := Nat.or_lt_two_pow hT (Nat.pow_lt_pow_right (by decide) hx)
theorem e_puts0 {p x T : Nat} {Q : Int32 → St → Prop} (hL : LM l S) (hp : p < lp l) (hx : x < lb l) (hT : T < 2 ^ lb l) (h : Q (nI (lsz l x) + S 83 (1024 * (p + 1) + (T ||| 2 ^ x))) S) : k_m_puts0 E d S (nI p) (nI x) (nI T) Q := by
  have p7 := hL.ok.p7
  have b10 := hL.ok.b10
  have := pw10 hL.ok (or_lt hT hx)
  refine w_m_puts0 ⟨by omega, 1024 * (p + 1) + (T ||| 2 ^ x), ?_, by omega, ?_⟩
  · rw [bt_eq x (by omega), nI_or, nI_add]
  · rw [hL.sz hx]
    exact h
/-- the least sum as it lies -/
def LVr (l : Lnd) (A : Scn) (f : Nat → Int32) (p T : Nat) : Prop := ∃ m s, Opt (lsz l) (tmf A) (plq l A p) (fun x => (sdf (whtM l A) T).testBit x) m s ∧ m + p ≤ lp l ∧ f (1024 * p + T) = nI (10000 * (lp l - p - m) + s)
theorem opt_ml {p M m s : Nat} (hM : ∀ x, M.testBit x = true → x < lb l) (hl : LOk l) (h : Opt (lsz l) (tmf A) (plq l A p) (fun x => M.testBit x) m s) : m ≤ lp l - p := by
  have h1 := mq_bd _ _ _ _ (fun x hx => (hl.2.2.2.2.2.2.2.1 x (hM x hx)).2) h.1
  have h2 := sg_len (f := fun i => i) (q := fun i => decide (0 < tmf A i)) (lp l - p) p
  exact Nat.le_trans h1.1 h2
/-- what has been tried: nothing, or one of the first x -/
def Cnd (l : Lnd) (A : Scn) (p T x m s : Nat) : Prop := Mq (lsz l) (tmf A) (plq l A (p + 1)) (fun y => (sdf (whtM l A) T).testBit y) m s ∨ ∃ y m' s', y < x ∧ ((sdf (whtM l A) T).testBit y = true ∧ 0 < tmf A p ∧ tmf A p ≤ lsz l y) ∧ m = m' + 1 ∧ s = s' + lsz l y ∧ Mq (lsz l) (tmf A) (plq l A (p + 1)) (fun z => (sdf (whtM l A) (T ||| 2 ^ y)).testBit z) m' s'
theorem cnd_all {p T m s : Nat} (hp : p < lp l) : Cnd l A p T (lb l) m s ↔ Mq (lsz l) (tmf A) (plq l A p) (fun y => (sdf (whtM l A) T).testBit y) m s := by
  by_cases ht : 0 < tmf A p
  · have e : plq l A p = p :: plq l A (p + 1) := pl_t hp ht
    rw [e]
    constructor
    · intro h
      rcases h with h | ⟨y, m', s', h1, h2, h3, h4, h5⟩
      · exact mq_skip h
      · subst h3 h4
        refine mq_take h2.1 h2.2.2 ?_
        rw [dlt_sdf, ← sdf_or]
        exact h5
    · intro h
      rcases h with h | ⟨y, m', s', h1, h2, h3, h4, h5⟩
      · exact Or.inl h
      · rw [dlt_sdf, ← sdf_or] at h5
        exact Or.inr ⟨y, m', s', wt_in y h1, ⟨h1, ht, h2⟩, h3, h4, h5⟩
  · have e : plq l A p = plq l A (p + 1) := pl_f hp ht
    rw [e]
    constructor
    · intro h
      rcases h with h | ⟨y, m', s', h1, h2, _⟩
      · exact h
      · exact absurd h2.2.1 ht
    · exact Or.inl
theorem cnd_no {p T x m s : Nat} (h : ¬ ((sdf (whtM l A) T).testBit x = true ∧ 0 < tmf A p ∧ tmf A p ≤ lsz l x)) : Cnd l A p T (x + 1) m s ↔ Cnd l A p T x m s := by
  constructor
  · intro g
    rcases g with g | ⟨y, m', s', h1, h2, h3⟩
    · exact Or.inl g
    · refine Or.inr ⟨y, m', s', ?_, h2, h3⟩
      by_cases e : y = x
      · rw [e] at h2
        exact absurd h2 h
      · omega
  · intro g
    rcases g with g | ⟨y, m', s', h1, h2⟩
    · exact Or.inl g
    · exact Or.inr ⟨y, m', s', by omega, h2⟩
theorem e_laysPuts {Q : St → Prop} (hd : 3 ≤ d) (hL : LM l S) (hA : ScM l (S 77) 0 A) (hO : AOk l A) (h : ∀ S' : St, Fr [83] S S' → (∀ p, p ≤ lp l → ∀ T, T < 2 ^ lb l → LVr l A (S' 83) p T) → Q S') : k_m_laysPuts E d S Q := by
  have p7 := hL.ok.p7
  have b10 := hL.ok.b10
  have lm : ∀ S' : St, Fr [83] S S' → LM l S' := fun S' f => LM_of hL (fun i _ _ => by rw [f 65 (by decide)]) (f 66 (by decide)) (f 67 (by decide)) (f 68 (by decide))
  have sc : ∀ S' : St, Fr [83] S S' → ScM l (S' 77) 0 A := fun S' f => by
    rw [f 77 (by decide)]
    exact hA
  have pwb : 2 ^ lb l ≤ 1024 := Nat.pow_le_pow_right (n := 2) (by decide) b10
  have upF : ∀ (S' : St) (i : Nat) (v : Int32), Fr [83] S S' → Fr [83] S (up S' 83 i v) := fun S' i v f => f.trans (Fr.up _ _ (by decide))
  refine w_m_laysPuts (by omega) ?_
  have l38 : ∀ k, k ≤ lp l → ∀ S' : St, Fr [83] S S' → (∀ p, k ≤ p → p ≤ lp l → ∀ T, T < 2 ^ lb l → LVr l A (S' 83) p T) → k_m_laysPuts_38 E d S' (nI k - 1) Q := by
    intro k
    induction k with
    | zero =>
      intro _ S' f hv
      refine w_m_laysPuts_38 (by omega) ?_
      rw [if_pos (by decide)]
      exact h S' f (fun p hp T hT => hv p (Nat.zero_le _) hp T hT)
    | succ k ihk =>
      intro hk S' f hv
      rw [nI_pred]
      refine w_m_laysPuts_38 (by omega) ?_
      rw [if_neg (nI_pos (by omega))]
      have l44 : ∀ T, T ≤ 2 ^ lb l → ∀ S1 : St, Fr [83] S S1 → (∀ p, k + 1 ≤ p → p ≤ lp l → ∀ T, T < 2 ^ lb l → LVr l A (S1 83) p T) → (∀ T', T' < T → LVr l A (S1 83) k T') → k_m_laysPuts_44 E d S1 (nI k) T Q := by
        refine dn (2 ^ lb l) ?_ (fun T hT ihT => ?_)
        · intro S1 f1 h1 h2
          refine w_m_laysPuts_44 (by omega) ?_
          rw [(lm S1 f1).b, show (1 : Int32) <<< (nI (lb l) &&& 31) = bt (lb l) from rfl, bt_eq (lb l) (by omega), if_pos (nI_le (Nat.le_refl _) (by omega)), ← Int32.sub_eq_add_neg]
          refine ihk (by omega) S1 f1 (fun p hp1 hp2 T hT => ?_)
          by_cases e : p = k
          · rw [e]
            exact h2 T hT
          · exact h1 p (by omega) hp2 T hT
        · intro S1 f1 h1 h2
          refine w_m_laysPuts_44 (by omega) ?_
          rw [(lm S1 f1).b, show (1 : Int32) <<< (nI (lb l) &&& 31) = bt (lb l) from rfl, bt_eq (lb l) (by omega), if_neg (nI_ge hT (by omega))]
          refine ⟨1024 * (k + 1) + T, ?_, by omega, ?_⟩
          · rw [nI_1, show (1024 : Int32) = nI 1024 from rfl, pk_mul, nI_add]
          obtain ⟨m, s, o, hm, hf⟩ := h1 (k + 1) (Nat.le_refl _) hk T hT
          rw [hf, show (10000 : Int32) = nI 10000 from rfl, nI_add]
          have l76 : ∀ x, x ≤ lb l → ∀ m s, Cnd l A k T x m s → (∀ m' s', Cnd l A k T x m' s' → m' < m ∨ (m' = m ∧ s ≤ s')) → m + k ≤ lp l → s ≤ 99 * m → k_m_laysPuts_76 E d S1 (nI k) T (nI (10000 * (lp l - k - m) + s)) x Q := by
            refine dn (lb l) ?_ (fun x hx ihx => ?_)
            · intro m s c1 c2 hm hs
              refine w_m_laysPuts_76 (by omega) (ilp (lb l) (lm S1 f1).b (by omega) (by omega) (fun _ => ?_) (fun h => by omega))
              refine ⟨1024 * k + T, ?_, by omega, fun S2 e2 => ?_⟩
              · rw [show (1024 : Int32) = nI 1024 from rfl, pk_mul, nI_add]
              · refine ihT S2 (by rw [e2]; exact upF S1 _ _ f1) (fun p hp1 hp2 T' hT' => ?_) (fun T' hT' => ?_)
                · obtain ⟨m1, s1, o1, hm1, hf1⟩ := h1 p hp1 hp2 T' hT'
                  refine ⟨m1, s1, o1, hm1, ?_⟩
                  rw [e2, up_same, upd_ne _ _ (by omega)]
                  exact hf1
                · by_cases e : T' = T
                  · subst e
                    refine ⟨m, s, ⟨(cnd_all hk).mp c1, fun m' s' g => c2 m' s' ((cnd_all hk).mpr g)⟩, hm, ?_⟩
                    rw [e2, up_same, upd_same]
                  · obtain ⟨m1, s1, o1, hm1, hf1⟩ := h2 T' (by omega)
                    refine ⟨m1, s1, o1, hm1, ?_⟩
                    rw [e2, up_same, upd_ne _ _ (by omega)]
                    exact hf1
            · intro m s c1 c2 hm hs
              refine w_m_laysPuts_76 (by omega) (ilp (lb l) (lm S1 f1).b (by omega) (by omega) (fun h => by omega) (fun _ => ?_))
              refine e_canPut (by omega) (lm S1 f1) (sc S1 f1) hO hk hx (by omega) (izb (fun c => ?_) (fun c => ?_))
              · refine e_puts0 (lm S1 f1) hk hx hT ?_
                obtain ⟨m1, s1, o1, hm1, hf1⟩ := h1 (k + 1) (Nat.le_refl _) hk (T ||| 2 ^ x) (or_lt hT hx)
                rw [hf1, nI_add]
                have b1 := opt_bd hL.ok wt_in o1
                have b3 := (hL.ok.2.2.2.2.2.2.2.1 x hx).2
                have cn : Cnd l A k T (x + 1) (m1 + 1) (s1 + lsz l x) := Or.inr ⟨x, m1, s1, Nat.lt_succ_self _, c, rfl, rfl, o1.1⟩
                have co : Cnd l A k T (x + 1) m s := by
                  rcases c1 with g | ⟨y, m', s', g1, g2⟩
                  · exact Or.inl g
                  · exact Or.inr ⟨y, m', s', by omega, g2⟩
                have all : ∀ m' s', Cnd l A k T (x + 1) m' s' → (m' < m ∨ (m' = m ∧ s ≤ s')) ∨ (m' < m1 + 1 ∨ (m' = m1 + 1 ∧ s1 + lsz l x ≤ s')) := fun m' s' g => by
                  rcases g with g | ⟨y, m2, s2, g1, g2, g3, g4, g5⟩
                  · exact Or.inl (c2 m' s' (Or.inl g))
                  · by_cases e : y = x
                    · subst e
                      have := o1.2 m2 s2 g5
                      omega
                    · exact Or.inl (c2 m' s' (Or.inr ⟨y, m2, s2, by omega, g2, g3, g4, g5⟩))
                refine w_m_lesser (ife (fun u => ?_) (fun u => ?_))
                · rw [nI_leI (by omega) (by omega)] at u
                  rw [show lsz l x + (10000 * (lp l - (k + 1) - m1) + s1) = 10000 * (lp l - k - (m1 + 1)) + (s1 + lsz l x) by omega] at u ⊢
                  refine ihx (m1 + 1) (s1 + lsz l x) cn (fun m' s' g => ?_) (by omega) (by omega)
                  have := all m' s' g
                  omega
                · rw [nI_leI (by omega) (by omega)] at u
                  refine ihx m s co (fun m' s' g => ?_) hm hs
                  have := all m' s' g
                  omega
              · refine ihx m s ((cnd_no c).mpr c1) (fun m' s' g => c2 m' s' ((cnd_no c).mp g)) hm hs
          have b1 := opt_bd hL.ok wt_in o
          rw [show 10000 + (10000 * (lp l - (k + 1) - m) + s) = 10000 * (lp l - k - m) + s by omega]
          refine l76 0 (Nat.zero_le _) m s (Or.inl o.1) (fun m' s' g => ?_) (by omega) b1.2
          rcases g with g | ⟨y, _, _, hy, _⟩
          · exact o.2 m' s' g
          · exact absurd hy (Nat.not_lt_zero y)
      exact l44 0 (Nat.zero_le _) S' f hv (fun T' hT' => absurd hT' (Nat.not_lt_zero T'))
  have l2 : ∀ t, t ≤ 1024 → ∀ S' : St, Fr [83] S S' → (∀ i, i < t → S' 83 (1024 * lp l + i) = 0) → k_m_laysPuts_2 E d S' (nI t) Q := by
    refine dn 1024 ?_ (fun t ht iht => ?_)
    · intro S' f hv
      refine w_m_laysPuts_2 (by omega) ?_
      rw [if_pos (show (1024 : Int32) ≤ nI 1024 from Int32.le_refl _), (lm S' f).p]
      refine l38 (lp l) (Nat.le_refl _) S' f (fun p hp1 hp2 T hT => ?_)
      rw [show p = lp l by omega]
      have e : plq l A (lp l) = [] := by
        unfold plq
        rw [Nat.sub_self]
        rfl
      refine ⟨0, 0, ?_, by omega, ?_⟩
      · rw [e]
        refine ⟨⟨rfl, rfl⟩, fun m' s' g => ?_⟩
        have g : m' = 0 ∧ s' = 0 := g
        omega
      · rw [hv T (by omega), Nat.sub_self]
        rfl
    · intro S' f hv
      refine w_m_laysPuts_2 (by omega) ?_
      rw [if_neg (show ¬ (1024 : Int32) ≤ nI t from nI_ge (b := 1024) ht (by omega))]
      refine ⟨1024 * lp l + t, ?_, by omega, fun S1 e1 => ?_⟩
      · rw [(lm S' f).p, show (1024 : Int32) = nI 1024 from rfl, pk_mul, nI_add]
      · rw [nI_1]
        refine iht S1 (by rw [e1]; exact upF S' _ _ f) (fun i hi => ?_)
        rw [e1, up_same]
        by_cases e : i = t
        · rw [e, upd_same]
        · rw [upd_ne _ _ (by omega)]
          exact hv i (by omega)
  exact l2 0 (Nat.zero_le _) S (Fr.refl _ _) (fun i hi => absurd hi (Nat.not_lt_zero i))
/-- the least from j on -/
def lfr (q : Nat → Bool) (n j : Nat) (o : Option Nat) : Prop := (∀ y, o = some y → j ≤ y ∧ y < n ∧ q y = true ∧ ∀ z, j ≤ z → z < y → q z = false) ∧ (o = none → ∀ z, j ≤ z → z < n → q z = false)
theorem lfr_0 {q : Nat → Bool} {n : Nat} {o : Option Nat} (h : lfr q n 0 o) : o = fstF q n := by
  cases o with
  | none => exact (fstF_none n (fun j hj => h.2 rfl j (Nat.zero_le _) hj)).symm
  | some y =>
    have := h.1 y rfl
    exact (fstF_some this.2.2.1 (fun j hj => this.2.2.2 j (Nat.zero_le _) hj) n this.2.1).symm
theorem e_laysTaking {Q : St → Prop} (hd : 5 ≤ d) (hL : LM l S) (hA : ScM l (S 77) 0 A) (hO : AOk l A) (h : ∀ S' : St, Fr [83, 84] S S' → (∀ j, j < lp l → S' 84 j = oI (ptx l A j)) → Q S') : k_m_laysTaking E d S Q := by
  have p7 := hL.ok.p7
  have b10 := hL.ok.b10
  refine w_m_laysTaking (by omega) (e_laysPuts (by omega) hL hA hO (fun S0 f0 hv => ?_))
  have F0 : Fr [83, 84] S S0 := f0.mono (by decide)
  have lm : ∀ S' : St, Fr [83, 84] S S' → LM l S' := fun S' f => LM_of hL (fun i _ _ => by rw [f 65 (by decide)]) (f 66 (by decide)) (f 67 (by decide)) (f 68 (by decide))
  have sc : ∀ S' : St, Fr [83, 84] S S' → ScM l (S' 77) 0 A := fun S' f => by
    rw [f 77 (by decide)]
    exact hA
  have pwb : 2 ^ lb l ≤ 1024 := Nat.pow_le_pow_right (n := 2) (by decide) b10
  have main : ∀ p, p ≤ lp l → ∀ (S' : St) (T : Nat), Fr [84] S0 S' → T < 2 ^ lb l → sdf (whtM l A) T = avN l A p → (∀ j, j < p → S' 84 j = oI (ptx l A j)) → k_m_laysTaking_8 E d S' (nI T) p Q := by
    refine dn (lp l) ?_ (fun p hp ih => ?_)
    · intro S' T f hT eT hr
      have F : Fr [83, 84] S S' := F0.trans (f.mono (by decide))
      exact w_m_laysTaking_8 (by omega) (ilp (lp l) (lm S' F).p (by omega) (by omega) (fun _ => h S' F hr) (fun h => by omega))
    · intro S' T f hT eT hr
      have F : Fr [83, 84] S S' := F0.trans (f.mono (by decide))
      refine w_m_laysTaking_8 (by omega) (ilp (lp l) (lm S' F).p (by omega) (by omega) (fun h => by omega) (fun _ => ⟨by omega, fun S1 e1 => ?_⟩))
      have f1 : Fr [84] S0 S1 := f.trans (by rw [e1]; exact Fr.up _ _ (by decide))
      have F1 : Fr [83, 84] S S1 := F0.trans (f1.mono (by decide))
      have inner : ∀ j, j ≤ lb l → ∀ (S2 : St) (o : Option Nat), Fr [84] S0 S2 → (∀ i, i < p → S2 84 i = oI (ptx l A i)) → S2 84 p = oI o → lfr (gdb l A p (avN l A p)) (lb l) j o → k_m_laysTaking_30 E d S2 (nI T) p (nI j - 1) Q := by
        intro j
        induction j with
        | zero =>
          intro _ S2 o f2 r2 ro hl2
          refine w_m_laysTaking_30 (by omega) ?_
          rw [if_pos (by decide)]
          have eo : o = ptx l A p := lfr_0 hl2
          subst eo
          refine ⟨by omega, ?_⟩
          have r3 : ∀ i, i < p + 1 → S2 84 i = oI (ptx l A i) := fun i hi => by
            by_cases e : i = p
            · rw [e]
              exact ro
            · exact r2 i (by omega)
          rw [ro]
          cases hx : ptx l A p with
          | none =>
            rw [if_pos (show oI none = -1 from rfl)]
            exact ih S2 T f2 hT (by rw [(av_none hx).1]; exact eT) r3
          | some x =>
            have sx := ptx_s hx
            have := sx.1
            rw [if_neg (show ¬ oI (some x) = -1 from oI_ne (show x < 2 ^ 31 by omega))]
            refine ⟨by omega, ?_⟩
            show k_m_laysTaking_8 E d S2 (nI T ||| bt x) (p + 1) Q
            rw [bt_eq x (by omega), nI_or]
            exact ih S2 _ f2 (or_lt hT sx.1) (by rw [(av_some hx).1, sdf_or, eT]) r3
        | succ j ihj =>
          intro hj S2 o f2 r2 ro hl2
          have F2 : Fr [83, 84] S S2 := F0.trans (f2.mono (by decide))
          have v2 : S2 83 = S0 83 := f2 83 (by decide)
          rw [nI_pred]
          refine w_m_laysTaking_30 (by omega) ?_
          rw [if_neg (nI_pos (by omega)), ← Int32.sub_eq_add_neg]
          have no : gdb l A p (avN l A p) j = false → k_m_laysTaking_30 E d S2 (nI T) p (nI j - 1) Q := fun hg => by
            refine ihj (by omega) S2 o f2 r2 ro ⟨fun y hy => ?_, fun hn z h1 h2 => ?_⟩
            · have := hl2.1 y hy
              refine ⟨by omega, this.2.1, this.2.2.1, fun z h1 h2 => ?_⟩
              by_cases e : z = j
              · rw [e]
                exact hg
              · exact this.2.2.2 z (by omega) h2
            · by_cases e : z = j
              · rw [e]
                exact hg
              · exact hl2.2 hn z (by omega) h2
          refine e_canPut (by omega) (lm S2 F2) (sc S2 F2) hO hp (by omega) (by omega) (izb (fun c => ?_) (fun c => ?_))
          · refine e_puts0 (lm S2 F2) hp (by omega) hT ?_
            obtain ⟨m, s, o0, hm, hf⟩ := hv p (by omega) T hT
            obtain ⟨m1, s1, o1, hm1, hf1⟩ := hv (p + 1) hp (T ||| 2 ^ j) (or_lt hT (by omega))
            rw [eT] at o0
            rw [sdf_or, eT] at o1
            rw [eT] at c
            have hin := av_in (l := l) (A := A) p
            have b0 := opt_bd hL.ok hin o0
            have b1 := opt_bd hL.ok (fun y hy => hin y (sdf_in hy)) o1
            have b3 := (hL.ok.2.2.2.2.2.2.2.1 j (by omega)).2
            have st := opt_step hL.ok hin hp c.2.1 o0 c.1 c.2.2 o1
            refine ⟨1024 * p + T, by rw [nI_add], by omega, ?_⟩
            rw [v2, hf, hf1, nI_add]
            refine ife (fun u => ?_) (fun u => ?_)
            · rw [nI_eq (by omega) (by omega)] at u
              have hg := st.2.mpr (by omega)
              refine ⟨by omega, fun S3 e3 => ?_⟩
              refine ihj (by omega) S3 (some j) (f2.trans (by rw [e3]; exact Fr.up _ _ (by decide))) (fun i hi => ?_) (by rw [e3, up_same, upd_same]; rfl) ⟨fun y hy => ?_, fun hn => by cases hn⟩
              · rw [e3, up_same, upd_ne _ _ (by omega)]
                exact r2 i hi
              · cases hy
                exact ⟨Nat.le_refl _, by omega, hg, fun z h1 h2 => by omega⟩
            · rw [nI_eq (by omega) (by omega)] at u
              refine no ?_
              cases hg : gdb l A p (avN l A p) j with
              | false => rfl
              | true =>
                exfalso
                have := st.2.mp hg
                omega
          · rw [eT] at c
            exact no (gdb_f (fun g => c ⟨g.1, g.2.1, g.2.2.1⟩))
      have := inner (lb l) (Nat.le_refl _) S1 none f1 (fun i hi => by rw [e1, up_same, upd_ne _ _ (by omega)]; exact hr i hi) (by rw [e1, up_same, upd_same]; rfl) ⟨(fun y hy => by cases hy), fun _ z h1 h2 => by omega⟩
      rw [(lm S1 F1).b]
      exact this
  refine main 0 (Nat.zero_le _) S0 0 (Fr.refl _ _) (Nat.pow_pos (by decide)) ?_ (fun j hj => absurd hj (Nat.not_lt_zero j))
  rw [sdf_0r]
  rfl
end PUM
section PUN
variable {G : Gst} {S : St} {E : zX} {d : Nat} {Q : Int32 → St → Prop}
theorem m_putBy {c : Int32} (hd : 20 ≤ d) (hG : GInv G) (hR : RelM G S) (h : ∀ S' v, QM S S' → S' 65 0 = nI (cd3 false (ng 2 c) false) → (cd3 false (ng 2 c) false = 0 → v = vPutBy G c) → Q v S') : k_m_putBy E d S c Q := by
  have p7 := hG.1.p7
  have b10 := hG.1.b10
  refine w_m_putBy (by omega) (fun S1 e1 => ?_)
  have q1 : QM S S1 := by
    rw [e1]
    exact QM_up _ (by decide)
  have t1 : S1 65 0 = 0 := by rw [e1, up_same, upd_same]
  have L1 := LM_qm hR.lm q1
  have A1 : ScM (gl G) (S1 77) 0 (gA G) := ScM_lo hG.1 hR.sc (fun i hi => q1.2.2 i hi)
  refine e_isWhat (n := 1) (by omega) (by omega) t1 (fun w hw ec => ?_) (fun e => ?_)
  · subst ec
    rw [if_neg (by decide)]
    have hc : cd3 false (ng 2 (nI w)) false = 0 := by unfold cd3; rw [ng_f (by omega) (by omega)]; rfl
    rw [hc] at h
    unfold vPutBy at h
    refine e_laysTaking (by omega) L1 A1 hG.aok (fun S2 f2 hr => ?_)
    have q2 : QM S S2 := q1.trans (QM_fr f2 (by decide))
    have L2 := LM_qm hR.lm q2
    have h := h S2
    have main : ∀ p, p ≤ lp (gl G) → k_m_putBy_27 E d S2 (nI w) (ptn (gl G) (gA G) p) (ptw (gl G) (gA G) p) p Q := by
      refine dn (lp (gl G)) ?_ (fun p hp ih => ?_)
      · refine w_m_putBy_27 (by omega) (ilp (lp (gl G)) L2.p (by omega) (by omega) (fun _ => ?_) (fun h => by omega))
        have h := fun v => h v q2 (by rw [f2 65 (by decide), t1]; rfl)
        refine ife (fun e => ?_) (fun e => ?_)
        · rw [if_pos e] at h
          exact h _ (fun _ => rfl)
        · rw [if_neg e] at h
          exact h _ (fun _ => rfl)
      · refine w_m_putBy_27 (by omega) (ilp (lp (gl G)) L2.p (by omega) (by omega) (fun h => by omega) (fun _ => ⟨by omega, ?_⟩))
        rw [hr p hp]
        cases hx : ptx (gl G) (gA G) p with
        | none =>
          rw [(av_none hx).2.1, (av_none hx).2.2] at ih
          rw [if_pos (show oI none = -1 from rfl)]
          exact ih
        | some x =>
          have sx := (ptx_s hx).1
          rw [(av_some hx).2.1, (av_some hx).2.2] at ih
          rw [if_neg (show ¬ oI (some x) = -1 from oI_ne (show x < 2 ^ 31 by omega))]
          refine ⟨by omega, x, rfl, by omega, by omega, ?_⟩
          have r77 : S2 77 (1 + p) = gA G 1 p := by
            rw [f2 77 (by decide)]
            have := A1 1 p (by decide) hp
            rw [show 0 + offM 1 + p = 1 + p from by show 0 + 1 + p = 1 + p; omega] at this
            exact this
          rw [L2.sz sx, r77]
          exact ih
    exact main 0 (Nat.zero_le _)
  · rw [if_pos rfl]
    have hc : cd3 false (ng 2 c) false = 1 := by unfold cd3; rw [show ng 2 c = true from decide_eq_true e]; rfl
    refine h _ _ (q1.trans (QM_up _ (by decide))) (by rw [up_same, upd_same, hc]; rfl) (fun h0 => by rw [hc] at h0; cases h0)
theorem m_put {a : Int32} (hd : 20 ≤ d) (hG : GInv G) (hR : RelM G S) (h : ∀ S' v, QM S S' → S' 65 0 = nI (cd3 (ng (lp (gl G)) a) false false) → (cd3 (ng (lp (gl G)) a) false false = 0 → v = vPut G a) → Q v S') : k_m_put E d S a Q := by
  have p7 := hG.1.p7
  refine w_m_put (by omega) (fun S1 e1 => ?_)
  have q1 : QM S S1 := by
    rw [e1]
    exact QM_up _ (by decide)
  have t1 : S1 65 0 = 0 := by rw [e1, up_same, upd_same]
  have L1 := LM_qm hR.lm q1
  have A1 : ScM (gl G) (S1 77) 0 (gA G) := ScM_lo hG.1 hR.sc (fun i hi => q1.2.2 i hi)
  refine e_isPerson (by omega) L1 t1 (fun x hx ea => ?_) (fun e => ?_)
  · subst ea
    rw [if_neg (by decide)]
    have hc : cd3 (ng (lp (gl G)) (nI x)) false false = 0 := by unfold cd3; rw [ng_f (by omega) hx]; rfl
    rw [hc] at h
    unfold vPut at h
    rw [tN_nI (by omega)] at h
    refine e_laysTaking (by omega) L1 A1 hG.aok (fun S2 f2 hr => ⟨x, rfl, by omega, ?_⟩)
    exact h S2 _ (q1.trans (QM_fr f2 (by decide))) (by rw [f2 65 (by decide), t1]; rfl) (fun _ => hr x hx)
  · rw [if_pos rfl]
    have hc : cd3 (ng (lp (gl G)) a) false false = 1 := by unfold cd3; rw [show ng (lp (gl G)) a = true from decide_eq_true e]; rfl
    refine h _ _ (q1.trans (QM_up _ (by decide))) (by rw [up_same, upd_same, hc]; rfl) (fun h0 => by rw [hc] at h0; cases h0)
end PUN
