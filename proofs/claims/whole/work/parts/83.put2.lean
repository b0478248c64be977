/-! PUT BY in the class -/
def tmf (A : Scn) (p : Nat) : Nat := tN (A 1 p)
theorem tmf_ok {l : Lnd} {A : Scn} (h : AOk l A) {p : Nat} (hp : p < lp l) : A 1 p = nI (tmf A p) ∧ tmf A p ≤ 99 := by
  obtain ⟨n, hn, e⟩ := (h.2 p hp).1
  unfold tmf
  rw [e, tN_nI (by omega)]
  exact ⟨rfl, hn⟩
theorem nI_dec (a : Nat) : nI (a + 1) + (-1) = nI a := by
  rw [← Int32.sub_eq_add_neg]
  exact nI_pred a
theorem ins_up {g : Nat → Int32} {f : Nat → Nat} {a k : Nat} (v1 : ∀ i, i < a → g i = nI (f i)) (v2 : ∀ i, a ≤ i → i < k → g (i + 1) = nI (f i)) (i : Nat) (hi : i < k + 1) : upd g a (nI k) i = nI (ins f a k i) := by
  unfold ins
  by_cases h1 : i < a
  · rw [if_pos h1, upd_ne _ _ (by omega), v1 i h1]
  · rw [if_neg h1]
    by_cases h2 : i = a
    · rw [if_pos h2, h2, upd_same]
    · rw [if_neg h2, upd_ne _ _ h2]
      have := v2 (i - 1) (by omega) (by omega)
      rw [show i - 1 + 1 = i by omega] at this
      exact this
theorem sh_up {g : Nat → Int32} {f : Nat → Nat} {a k : Nat} (v1 : ∀ i, i < a + 1 → g i = nI (f i)) (v2 : ∀ i, a + 1 ≤ i → i < k → g (i + 1) = nI (f i)) : (∀ i, i < a → upd g (a + 1) (g a) i = nI (f i)) ∧ ∀ i, a ≤ i → i < k → upd g (a + 1) (g a) (i + 1) = nI (f i) := by
  refine ⟨fun i hi => ?_, fun i h1 h2 => ?_⟩
  · rw [upd_ne _ _ (by omega), v1 i (by omega)]
  · by_cases e : i = a
    · rw [e, upd_same, v1 a (by omega)]
    · rw [upd_ne _ _ (by omega), v2 i (by omega) h2]
section PUT
variable {l : Lnd} {S : St} {E : zX} {d : Nat} {A : Scn}
theorem c_sortBalls {Q : St → Prop} (hL : LC l S) (h : ∀ (S' : St) (f : Nat → Nat), Fr [53] S S' → Srt (lsz l) f (lb l) → (∀ i, i < lb l → S' 53 i = nI (f i)) → Q S') : k_PutBy_sortBalls E d S Q := by
  have b10 := hL.ok.b10
  have lc : ∀ S' : St, Fr [53] S S' → LC l S' := fun S' f1 => LC_fr hL (fun k h1 h2 => f1 k (by simp only [List.mem_cons, List.not_mem_nil, or_false]; omega))
  refine w_PutBy_sortBalls ?_
  have main : ∀ k, k ≤ lb l → ∀ (S' : St) (f : Nat → Nat), Fr [53] S S' → Srt (lsz l) f k → (∀ i, i < k → S' 53 i = nI (f i)) → k_PutBy_sortBalls_2 E d S' k Q := by
    refine dn (lb l) ?_ (fun k hk ih => ?_)
    · intro S' f f1 hs hv
      exact w_PutBy_sortBalls_2 (ilp (lb l) (lc S' f1).b (by omega) (by omega) (fun _ => h S' f f1 hs hv) (fun h => by omega))
    · intro S' f f1 hs hv
      refine w_PutBy_sortBalls_2 (ilp (lb l) (lc S' f1).b (by omega) (by omega) (fun h => by omega) (fun _ => ?_))
      have inner : ∀ a, a ≤ k → ∀ S2 : St, Fr [53] S S2 → (∀ i, i < a → S2 53 i = nI (f i)) → (∀ i, a ≤ i → i < k → S2 53 (i + 1) = nI (f i)) → (∀ i, a ≤ i → i < k → lsz l k < lsz l (f i)) → k_PutBy_sortBalls_15 E d S2 k (nI a) Q := by
        intro a
        induction a with
        | zero =>
          intro _ S2 f2 v1 v2 v3
          refine w_PutBy_sortBalls_15 ?_
          rw [if_pos (show nI 0 ≤ 0 from Int32.le_refl 0)]
          refine ⟨0, rfl, by omega, fun S3 e3 => ih S3 (ins f 0 k) (f2.trans (by rw [e3]; exact Fr.up _ _ List.mem_cons_self)) (srt_ins hs (by omega) (fun h => by omega) v3) (fun i hi => ?_)⟩
          rw [e3, up_same]
          exact ins_up v1 v2 i hi
        | succ a iha =>
          intro ha S2 f2 v1 v2 v3
          have L2 := lc S2 f2
          have hfa := hs.1 a (by omega)
          refine w_PutBy_sortBalls_15 ?_
          rw [if_neg (nI_nle (by omega) (by omega))]
          refine ⟨a, nI_pred a, by omega, f a, v1 a (by omega), by omega, by omega, ?_⟩
          rw [L2.sz (show f a < lb l by omega), L2.sz hk]
          have g1 := hL.ok.2.2.2.2.2.2.2.1 (f a) (by omega)
          have g2 := hL.ok.2.2.2.2.2.2.2.1 k hk
          refine ife (fun e => ?_) (fun e => ?_)
          · rw [nI_leI (by omega) (by omega)] at e
            refine ⟨a + 1, rfl, by omega, fun S3 e3 => ih S3 (ins f (a + 1) k) (f2.trans (by rw [e3]; exact Fr.up _ _ List.mem_cons_self)) (srt_ins hs (by omega) (fun _ => e) v3) (fun i hi => ?_)⟩
            rw [e3, up_same]
            exact ins_up v1 v2 i hi
          · rw [nI_leI (by omega) (by omega)] at e
            refine ⟨a, nI_pred a, by omega, a + 1, rfl, by omega, fun S3 e3 => ?_⟩
            rw [nI_dec]
            have sh := sh_up v1 v2
            refine iha (by omega) S3 (f2.trans (by rw [e3]; exact Fr.up _ _ List.mem_cons_self)) (by rw [e3, up_same]; exact sh.1) (by rw [e3, up_same]; exact sh.2) (fun i h1 h2 => ?_)
            by_cases e4 : i = a
            · rw [e4]
              omega
            · exact v3 i (by omega) h2
      exact inner k (Nat.le_refl _) S' f1 hv (fun i h1 h2 => by omega) (fun i h1 h2 => by omega)
  exact main 0 (Nat.zero_le _) S (fun i => i) (Fr.refl _ _) ⟨fun i hi => by omega, fun x hx => by omega, fun i j _ hj => by omega⟩ (fun i hi => by omega)
theorem c_sortPeople {Q : St → Prop} (hd : 1 ≤ d) (hL : LC l S) (hA : ScC l (S 26) A) (hO : AOk l A) (h : ∀ (S' : St) (f : Nat → Nat), Fr [52] S S' → Srt (tmf A) f (lp l) → (∀ i, i < lp l → S' 52 i = nI (f i)) → Q S') : k_PutBy_sortPeople E d S Q := by
  have p7 := hL.ok.p7
  have lc : ∀ S' : St, Fr [52] S S' → LC l S' := fun S' f1 => LC_fr hL (fun k h1 h2 => f1 k (by simp only [List.mem_cons, List.not_mem_nil, or_false]; omega))
  have sc : ∀ S' : St, Fr [52] S S' → ScC l (S' 26) A := fun S' f1 => by
    rw [f1 26 (by decide)]
    exact hA
  refine w_PutBy_sortPeople hd ?_
  have main : ∀ k, k ≤ lp l → ∀ (S' : St) (f : Nat → Nat), Fr [52] S S' → Srt (tmf A) f k → (∀ i, i < k → S' 52 i = nI (f i)) → k_PutBy_sortPeople_2 E d S' k Q := by
    refine dn (lp l) ?_ (fun k hk ih => ?_)
    · intro S' f f1 hs hv
      exact w_PutBy_sortPeople_2 hd (ilp (lp l) (lc S' f1).p (by omega) (by omega) (fun _ => h S' f f1 hs hv) (fun h => by omega))
    · intro S' f f1 hs hv
      refine w_PutBy_sortPeople_2 hd (ilp (lp l) (lc S' f1).p (by omega) (by omega) (fun h => by omega) (fun _ => ?_))
      have inner : ∀ a, a ≤ k → ∀ S2 : St, Fr [52] S S2 → (∀ i, i < a → S2 52 i = nI (f i)) → (∀ i, a ≤ i → i < k → S2 52 (i + 1) = nI (f i)) → (∀ i, a ≤ i → i < k → tmf A k < tmf A (f i)) → k_PutBy_sortPeople_15 E d S2 k (nI a) Q := by
        intro a
        induction a with
        | zero =>
          intro _ S2 f2 v1 v2 v3
          refine w_PutBy_sortPeople_15 hd ?_
          rw [if_pos (show nI 0 ≤ 0 from Int32.le_refl 0)]
          refine ⟨0, rfl, by omega, fun S3 e3 => ih S3 (ins f 0 k) (f2.trans (by rw [e3]; exact Fr.up _ _ List.mem_cons_self)) (srt_ins hs (by omega) (fun h => by omega) v3) (fun i hi => ?_)⟩
          rw [e3, up_same]
          exact ins_up v1 v2 i hi
        | succ a iha =>
          intro ha S2 f2 v1 v2 v3
          have hfa := hs.1 a (by omega)
          refine w_PutBy_sortPeople_15 hd ?_
          rw [if_neg (nI_nle (by omega) (by omega))]
          refine ⟨a, nI_pred a, by omega, ?_⟩
          rw [v1 a (by omega)]
          have g1 := tmf_ok hO (p := f a) (by omega)
          have g2 := tmf_ok hO hk
          refine c_temperOf hL.ok sc25 (sc S2 f2) (show f a < lp l by omega) (c_temperOf hL.ok sc25 (sc S2 f2) hk ?_)
          rw [g1.1, g2.1]
          refine ife (fun e => ?_) (fun e => ?_)
          · rw [nI_leI (by omega) (by omega)] at e
            refine ⟨a + 1, rfl, by omega, fun S3 e3 => ih S3 (ins f (a + 1) k) (f2.trans (by rw [e3]; exact Fr.up _ _ List.mem_cons_self)) (srt_ins hs (by omega) (fun _ => e) v3) (fun i hi => ?_)⟩
            rw [e3, up_same]
            exact ins_up v1 v2 i hi
          · rw [nI_leI (by omega) (by omega)] at e
            refine ⟨a, nI_pred a, by omega, a + 1, rfl, by omega, fun S3 e3 => ?_⟩
            rw [nI_dec]
            have sh := sh_up v1 v2
            refine iha (by omega) S3 (f2.trans (by rw [e3]; exact Fr.up _ _ List.mem_cons_self)) (by rw [e3, up_same]; exact sh.1) (by rw [e3, up_same]; exact sh.2) (fun i h1 h2 => ?_)
            by_cases e4 : i = a
            · rw [e4]
              omega
            · exact v3 i (by omega) h2
      exact inner k (Nat.le_refl _) S' f1 hv (fun i h1 h2 => by omega) (fun i h1 h2 => by omega)
  exact main 0 (Nat.zero_le _) S (fun i => i) (Fr.refl _ _) ⟨fun i hi => by omega, fun x hx => by omega, fun i j _ hj => by omega⟩ (fun i hi => by omega)
def crsM (l : Lnd) (A : Scn) : Nat := mkN (fun p => decide (0 < tmf A p)) (lp l)
theorem c_crossPeople {Q : Int32 → St → Prop} (hd : 1 ≤ d) (hL : LC l S) (hA : ScC l (S 26) A) (hO : AOk l A) (h : Q (nI (crsM l A)) S) : k_PutBy_crossPeople E d S Q := by
  have p7 := hL.ok.p7
  refine w_PutBy_crossPeople hd ?_
  refine dn (P := fun k => k_PutBy_crossPeople_4 E d S (nI (mkN (fun p => decide (0 < tmf A p)) k)) k Q) (lp l) ?_ ?_ 0 (Nat.zero_le _)
  · exact w_PutBy_crossPeople_4 hd (ilp (lp l) hL.p (by omega) (by omega) (fun _ => h) (fun h => absurd h (Nat.lt_irrefl _)))
  · intro k hk ih
    refine w_PutBy_crossPeople_4 hd (ilp (lp l) hL.p (by omega) (by omega) (fun h => by omega) (fun _ => ?_))
    have g1 := tmf_ok hO hk
    refine c_temperOf hL.ok sc25 hA hk ?_
    rw [g1.1]
    refine ife (fun e => ?_) (fun e => ?_)
    · have e : nI (tmf A k) ≤ nI 0 := e
      rw [nI_leI (by omega) (by omega)] at e
      rw [mkN_no (decide_eq_false (by omega))]
      exact ih
    · have e : ¬ nI (tmf A k) ≤ nI 0 := e
      rw [nI_leI (by omega) (by omega)] at e
      rw [mkN_or (by omega) (decide_eq_true (by omega))]
      exact ih
theorem c_whiteBalls {Q : Int32 → St → Prop} (hd : 1 ≤ d) (hL : LC l S) (hA : ScC l (S 26) A) (h : Q (nI (whtM l A)) S) : k_PutBy_whiteBalls E d S Q := by
  have b10 := hL.ok.b10
  refine w_PutBy_whiteBalls hd ?_
  refine dn (P := fun k => k_PutBy_whiteBalls_4 E d S (nI (mkN (fun x => decide (A 6 x = 0)) k)) k Q) (lb l) ?_ ?_ 0 (Nat.zero_le _)
  · exact w_PutBy_whiteBalls_4 hd (ilp (lb l) hL.b (by omega) (by omega) (fun _ => h) (fun h => absurd h (Nat.lt_irrefl _)))
  · intro k hk ih
    refine w_PutBy_whiteBalls_4 hd (ilp (lb l) hL.b (by omega) (by omega) (fun h => by omega) (fun _ => ?_))
    refine c_isWhite hL.ok sc25 hA hk (izb (fun e => ?_) (fun e => ?_))
    · rw [mkN_or (by omega) (decide_eq_true e)]
      exact ih
    · rw [mkN_no (decide_eq_false e)]
      exact ih
/-- what bestOf gives -/
def bsv (l : Lnd) (A : Scn) (fB fT : Nat → Nat) (pm bm : Nat) : Nat × Nat := gre (lsz l) (tmf A) (fun x => bm.testBit x) (sg fB (fun _ => true) 0 (lb l)) (sg fT (fun x => pm.testBit x) 0 (lp l))
theorem c_bestOf {fB fT : Nat → Nat} {pm bm : Nat} {Q : Int32 → St → Prop} (hd : 1 ≤ d) (hL : LC l S) (hA : ScC l (S 26) A) (hO : AOk l A) (sB : Srt (lsz l) fB (lb l)) (vB : ∀ i, i < lb l → S 53 i = nI (fB i)) (sT : Srt (tmf A) fT (lp l)) (vT : ∀ i, i < lp l → S 52 i = nI (fT i)) (hbm : ∀ x, bm.testBit x = true → x < lb l) (h : Q (nI (wth (bsv l A fB fT pm bm))) S) : k_PutBy_bestOf E d S (nI pm) (nI bm) Q := by
  have p7 := hL.ok.p7
  have b10 := hL.ok.b10
  have hs : ∀ x, (fun x => bm.testBit x) x = true → lsz l x ≤ 99 := fun x hx => (hL.ok.2.2.2.2.2.2.2.1 x (hbm x hx)).2
  have key : ∀ i, i ≤ lb l → ∀ nx v, nx ≤ lp l → Q (nI (v + wth (gre (lsz l) (tmf A) (fun x => bm.testBit x) (sg fB (fun _ => true) i (lb l - i)) (sg fT (fun x => pm.testBit x) nx (lp l - nx))))) S → k_PutBy_bestOf_8 E d S (nI pm) (nI bm) (nI v) nx i Q := by
    refine dn (lb l) ?_ (fun i hi ih => ?_)
    · intro nx v hnx hq
      refine w_PutBy_bestOf_8 hd (ilp (lb l) hL.b (by omega) (by omega) (fun _ => ?_) (fun h => by omega))
      rw [Nat.sub_self] at hq
      exact hq
    · intro nx v hnx hq
      refine w_PutBy_bestOf_8 hd (ilp (lb l) hL.b (by omega) (by omega) (fun h => by omega) (fun _ => ⟨by omega, ?_⟩))
      rw [vB i hi]
      have hfi := sB.1 i hi
      have e1 : sg fB (fun _ => true) i (lb l - i) = fB i :: sg fB (fun _ => true) (i + 1) (lb l - (i + 1)) := by
        rw [show lb l - i = (lb l - (i + 1)) + 1 by omega, sg_t rfl]
      have l29 : ∀ j, j ≤ lp l → Q (nI (v + wth (gre (lsz l) (tmf A) (fun x => bm.testBit x) (sg fB (fun _ => true) i (lb l - i)) (sg fT (fun x => pm.testBit x) j (lp l - j))))) S → k_PutBy_bestOf_29 E d S (nI pm) (nI bm) (nI v) j i (nI (fB i)) Q := by
        refine dn (lp l) ?_ (fun j hj ihj => ?_)
        · intro hq
          refine w_PutBy_bestOf_29 hd (ilp (lp l) hL.p (by omega) (by omega) (fun _ => ?_) (fun h => by omega))
          refine w_PutBy_bestOf_61 hd (ilp (lp l) hL.p (by omega) (by omega) (fun _ => ?_) (fun h => by omega))
          refine ih (lp l) v (Nat.le_refl _) ?_
          rw [Nat.sub_self, show sg fT (fun x => pm.testBit x) (lp l) 0 = [] from rfl, gre_n] at hq ⊢
          exact hq
        · intro hq
          have hfj := sT.1 j hj
          refine w_PutBy_bestOf_29 hd (ilp (lp l) hL.p (by omega) (by omega) (fun h => by omega) (fun _ => ⟨by omega, ?_⟩))
          rw [vT j hj]
          refine ife (fun e => ?_) (fun e => ?_)
          · have e : nI pm &&& bt (fT j) = 0 := e
            rw [nI_tst (by omega)] at e
            rw [show lp l - j = (lp l - (j + 1)) + 1 by omega, sg_f e] at hq
            exact ihj hq
          · have e : ¬ nI pm &&& bt (fT j) = 0 := e
            rw [nI_tst (by omega)] at e
            have e : pm.testBit (fT j) = true := by simpa using e
            have e2 : sg fT (fun x => pm.testBit x) j (lp l - j) = fT j :: sg fT (fun x => pm.testBit x) (j + 1) (lp l - (j + 1)) := by
              rw [show lp l - j = (lp l - (j + 1)) + 1 by omega, sg_t e]
            have no : ¬ (bm.testBit (fB i) = true ∧ tmf A (fT j) ≤ lsz l (fB i)) → k_PutBy_bestOf_8 E d S (nI pm) (nI bm) (nI v) j (i + 1) Q := fun hno => by
              rw [e1, e2, gre_f hno, ← e2] at hq
              exact ih j v (by omega) hq
            refine w_PutBy_bestOf_61 hd (ilp (lp l) hL.p (by omega) (by omega) (fun h => by omega) (fun _ => ?_))
            refine ife (fun g => ?_) (fun g => ?_)
            · have g : nI bm &&& bt (fB i) = 0 := g
              rw [nI_tst (by omega)] at g
              exact no (fun a => by rw [g] at a; cases a.1)
            · have g : ¬ nI bm &&& bt (fB i) = 0 := g
              rw [nI_tst (by omega)] at g
              have g : bm.testBit (fB i) = true := by simpa using g
              refine ⟨fB i, rfl, by omega, by omega, ?_⟩
              rw [vT j hj]
              have g1 := tmf_ok hO hfj
              have g2 := hL.ok.2.2.2.2.2.2.2.1 (fB i) hfi
              refine c_temperOf hL.ok sc25 hA hfj ?_
              rw [g1.1, hL.sz hfi]
              refine ife (fun t => ?_) (fun t => ?_)
              · rw [nI_ltI (by omega) (by omega)] at t
                exact no (fun a => by omega)
              · rw [nI_ltI (by omega) (by omega)] at t
                refine w_PutBy_worthOf ⟨by omega, ?_⟩
                rw [hL.sz hfi, show (1000 : Int32) = nI 1000 from rfl, pk_sub (show lsz l (fB i) ≤ 1000 by omega), nI_add]
                refine ih (j + 1) _ (by omega) ?_
                rw [e1, e2, wth_t hs ⟨g, by omega⟩, ← Nat.add_assoc] at hq
                exact hq
      exact l29 nx hnx hq
  refine w_PutBy_bestOf hd ?_
  refine key 0 (Nat.zero_le _) 0 0 (Nat.zero_le _) ?_
  rw [Nat.zero_add]
  exact h
theorem gre_len {sz tm : Nat → Nat} {B : Nat → Bool} : ∀ bs ps : List Nat, (gre sz tm B bs ps).1 ≤ ps.length
  | [], _ => Nat.zero_le _
  | _ :: _, [] => Nat.zero_le _
  | b :: bs, p :: ps => by
    by_cases h : B b = true ∧ tm p ≤ sz b
    · rw [gre_t h]
      exact Nat.succ_le_succ (gre_len bs ps)
    · rw [gre_f h]
      exact gre_len bs (p :: ps)
theorem bsv_bd {fB fT : Nat → Nat} {pm bm : Nat} (hl : LOk l) (hbm : ∀ x, bm.testBit x = true → x < lb l) : (bsv l A fB fT pm bm).1 ≤ 7 ∧ (bsv l A fB fT pm bm).2 ≤ 99 * (bsv l A fB fT pm bm).1 := by
  have h1 := gre_len (sz := lsz l) (tm := tmf A) (B := fun x => bm.testBit x) (sg fB (fun _ => true) 0 (lb l)) (sg fT (fun x => pm.testBit x) 0 (lp l))
  have h2 := sg_len (f := fT) (q := fun x => pm.testBit x) (lp l) 0
  have h3 := hl.p7
  exact ⟨by unfold bsv; omega, gre_bd (fun x hx => (hl.2.2.2.2.2.2.2.1 x (hbm x hx)).2) _ _⟩
def ffT (l : Lnd) (A : Scn) (fB fT : Nat → Nat) (p pm bm bv x : Nat) : Bool := bm.testBit x && decide (tmf A p ≤ lsz l x) && decide ((1000 - lsz l x) + wth (bsv l A fB fT pm (sdf bm (2 ^ x))) = bv)
theorem sdf_in {a b i : Nat} (h : (sdf a b).testBit i = true) : a.testBit i = true := by
  rw [sdf_bit] at h
  cases ha : a.testBit i with
  | true => rfl
  | false =>
    rw [ha] at h
    cases h
theorem c_firstFor {fB fT : Nat → Nat} {p pm bm bv : Nat} {Q : Int32 → St → Prop} (hd : 2 ≤ d) (hL : LC l S) (hA : ScC l (S 26) A) (hO : AOk l A) (sB : Srt (lsz l) fB (lb l)) (vB : ∀ i, i < lb l → S 53 i = nI (fB i)) (sT : Srt (tmf A) fT (lp l)) (vT : ∀ i, i < lp l → S 52 i = nI (fT i)) (hbm : ∀ x, bm.testBit x = true → x < lb l) (hp : p < lp l) (hbv : bv < 1000000) (h : Q (oI (fstF (ffT l A fB fT p pm bm bv) (lb l))) S) : k_PutBy_firstFor E d S (nI p) (nI pm) (nI bm) (nI bv) Q := by
  have p7 := hL.ok.p7
  have b10 := hL.ok.b10
  refine w_PutBy_firstFor (by omega) ?_
  refine dn (P := fun k => (∀ j, j < k → ffT l A fB fT p pm bm bv j = false) → k_PutBy_firstFor_3 E d S p (nI pm) (nI bm) (nI bv) k Q) (lb l) ?_ ?_ 0 (Nat.zero_le _) (fun j hj => absurd hj (Nat.not_lt_zero j))
  · intro hno
    rw [fstF_none (lb l) hno] at h
    exact w_PutBy_firstFor_3 (by omega) (ilp (lb l) hL.b (by omega) (by omega) (fun _ => h) (fun h => absurd h (Nat.lt_irrefl _)))
  · intro k hk ih hno
    have next : ffT l A fB fT p pm bm bv k = false → k_PutBy_firstFor_3 E d S p (nI pm) (nI bm) (nI bv) (k + 1) Q := fun hf => ih (fun j hj => by
      by_cases e : j = k
      · rw [e]
        exact hf
      · exact hno j (by omega))
    refine w_PutBy_firstFor_3 (by omega) (ilp (lb l) hL.b (by omega) (by omega) (fun h => by omega) (fun _ => ?_))
    refine ife (fun e => ?_) (fun e => ?_)
    · rw [nI_tst (by omega)] at e
      exact next (by unfold ffT; rw [e]; rfl)
    · rw [nI_tst (by omega)] at e
      have e : bm.testBit k = true := by simpa using e
      have g1 := tmf_ok hO hp
      have g2 := hL.ok.2.2.2.2.2.2.2.1 k hk
      refine ⟨by omega, c_temperOf hL.ok sc25 hA hp ?_⟩
      rw [g1.1, hL.sz hk]
      refine ife (fun t => ?_) (fun t => ?_)
      · rw [nI_ltI (by omega) (by omega)] at t
        exact next (by unfold ffT; rw [e, decide_eq_false (by omega)]; rfl)
      · rw [nI_ltI (by omega) (by omega)] at t
        refine w_PutBy_worthOf ⟨by omega, ?_⟩
        have hb2 : ∀ x, (sdf bm (2 ^ k)).testBit x = true → x < lb l := fun x hx => hbm x (sdf_in hx)
        rw [bt_eq k (by omega), nI_sdf]
        refine c_bestOf (by omega) hL hA hO sB vB sT vT hb2 ?_
        have bd := bsv_bd (A := A) (fB := fB) (fT := fT) (pm := pm) hL.ok hb2
        have wb : wth (bsv l A fB fT pm (sdf bm (2 ^ k))) ≤ 7000 := by
          unfold wth
          omega
        rw [hL.sz hk, show (1000 : Int32) = nI 1000 from rfl, pk_sub (show lsz l k ≤ 1000 by omega), nI_add]
        refine ife (fun u => ?_) (fun u => ?_)
        · rw [nI_eq (by omega) (by omega)] at u
          have hf : ffT l A fB fT p pm bm bv k = true := by
            unfold ffT
            rw [e, decide_eq_true u, decide_eq_true (show tmf A p ≤ lsz l k by omega)]
            rfl
          rw [fstF_some hf hno (lb l) hk] at h
          exact h
        · rw [nI_eq (by omega) (by omega)] at u
          exact next (by unfold ffT; rw [e, decide_eq_false u, Bool.and_false])
end PUT
