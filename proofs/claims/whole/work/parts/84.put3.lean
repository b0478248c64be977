/-! PUT BY: who takes which; the class's calls -/
theorem fstF_congr {p q : Nat → Bool} : ∀ n, (∀ j, j < n → p j = q j) → fstF p n = fstF q n
  | 0, _ => rfl
  | n + 1, h => by
    show (match fstF p n with
      | some k => some k
      | none => if p n then some n else none) = (match fstF q n with
      | some k => some k
      | none => if q n then some n else none)
    rw [fstF_congr n (fun j hj => h j (by omega)), h n (by omega)]
theorem fstF_inv {p : Nat → Bool} : ∀ n k, fstF p n = some k → p k = true ∧ k < n ∧ ∀ j, j < k → p j = false
  | 0, k, h => by cases h
  | n + 1, k, h => by
    have h : (match fstF p n with
      | some k => some k
      | none => if p n then some n else none) = some k := h
    cases e : fstF p n with
    | some j =>
      rw [e] at h
      cases h
      have := fstF_inv n k e
      exact ⟨this.1, by omega, this.2.2⟩
    | none =>
      rw [e] at h
      have h : (if p n then some n else none) = some k := h
      cases hp : p n with
      | false =>
        rw [hp] at h
        cases h
      | true =>
        rw [hp] at h
        cases h
        refine ⟨hp, by omega, fun j hj => ?_⟩
        cases hj2 : p j with
        | false => rfl
        | true =>
          exfalso
          have : ∀ m, m ≤ n → fstF p m = none := fun m => by
            induction m with
            | zero => exact fun _ => rfl
            | succ m _ =>
              intro hm
              have all : ∀ t i, i + t = n → fstF p i = none := fun t => by
                induction t with
                | zero =>
                  intro i hi
                  rw [show i = n by omega, e]
                | succ t iht =>
                  intro i hi
                  have a := iht (i + 1) (by omega)
                  have a : (match fstF p i with
                    | some k => some k
                    | none => if p i then some i else none) = none := a
                  cases e3 : fstF p i with
                  | none => rfl
                  | some y =>
                    rw [e3] at a
                    cases a
              exact all (n - (m + 1)) (m + 1) (by omega)
          have a := this (j + 1) (by omega)
          have a : (match fstF p j with
            | some k => some k
            | none => if p j then some j else none) = none := a
          rw [this j (by omega), hj2] at a
          cases a
theorem fstF_noneI {p : Nat → Bool} : ∀ n, fstF p n = none → ∀ j, j < n → p j = false
  | 0, _, j, hj => absurd hj (Nat.not_lt_zero j)
  | n + 1, h, j, hj => by
    have h : (match fstF p n with
      | some k => some k
      | none => if p n then some n else none) = none := h
    cases e : fstF p n with
    | some i =>
      rw [e] at h
      cases h
    | none =>
      rw [e] at h
      by_cases e2 : j = n
      · rw [e2]
        cases hp : p n with
        | false => rfl
        | true =>
          rw [hp] at h
          cases h
      · exact fstF_noneI n e j (by omega)
section PU2
variable {l : Lnd} {A : Scn}
noncomputable def gdb (l : Lnd) (A : Scn) (p M x : Nat) : Bool := @decide (Gd (lsz l) (tmf A) (lp l) p (fun x => M.testBit x) x) (Classical.propDecidable _)
theorem gdb_t {p M x : Nat} : gdb l A p M x = true ↔ Gd (lsz l) (tmf A) (lp l) p (fun x => M.testBit x) x := @decide_eq_true_iff _ (Classical.propDecidable _)
theorem gdb_f {p M x : Nat} (h : ¬ Gd (lsz l) (tmf A) (lp l) p (fun x => M.testBit x) x) : gdb l A p M x = false := @decide_eq_false _ (Classical.propDecidable _) h
noncomputable def fxo (l : Lnd) (A : Scn) (p M : Nat) : Option Nat := fstF (gdb l A p M) (lb l)
noncomputable def avN (l : Lnd) (A : Scn) : Nat → Nat
  | 0 => whtM l A
  | p + 1 => match fxo l A p (avN l A p) with
    | none => avN l A p
    | some x => sdf (avN l A p) (2 ^ x)
noncomputable def ptx (l : Lnd) (A : Scn) (p : Nat) : Option Nat := fxo l A p (avN l A p)
noncomputable def ptn (l : Lnd) (A : Scn) : Nat → Nat
  | 0 => 0
  | p + 1 => match ptx l A p with
    | none => ptn l A p
    | some _ => ptn l A p + 1
noncomputable def ptw (l : Lnd) (A : Scn) : Nat → Int32
  | 0 => 0
  | p + 1 => match ptx l A p with
    | none => ptw l A p
    | some x => ptw l A p + (nI (lsz l x) - A 1 p)
theorem av_none {p : Nat} (h : ptx l A p = none) : avN l A (p + 1) = avN l A p ∧ ptn l A (p + 1) = ptn l A p ∧ ptw l A (p + 1) = ptw l A p := by
  have h2 : fxo l A p (avN l A p) = none := h
  refine ⟨?_, ?_, ?_⟩
  · rw [avN, h2]
  · rw [ptn, h]
  · rw [ptw, h]
theorem av_some {p x : Nat} (h : ptx l A p = some x) : avN l A (p + 1) = sdf (avN l A p) (2 ^ x) ∧ ptn l A (p + 1) = ptn l A p + 1 ∧ ptw l A (p + 1) = ptw l A p + (nI (lsz l x) - A 1 p) := by
  have h2 : fxo l A p (avN l A p) = some x := h
  refine ⟨?_, ?_, ?_⟩
  · rw [avN, h2]
  · rw [ptn, h]
  · rw [ptw, h]
theorem av_in : ∀ p x, (avN l A p).testBit x = true → x < lb l
  | 0, x, h => by
    have h : (whtM l A).testBit x = true := h
    unfold whtM at h
    rw [mkN_bit] at h
    simp at h
    exact h.1
  | p + 1, x, h => by
    cases e : ptx l A p with
    | none =>
      rw [(av_none e).1] at h
      exact av_in p x h
    | some y =>
      rw [(av_some e).1] at h
      exact av_in p x (sdf_in h)
theorem dlt_sdf (M x : Nat) : dlt (fun y => M.testBit y) x = fun y => (sdf M (2 ^ x)).testBit y := by
  funext y
  show (M.testBit y && !decide (y = x)) = (sdf M (2 ^ x)).testBit y
  rw [sdf_bit, Nat.testBit_two_pow]
  by_cases e : x = y
  · rw [decide_eq_true e, decide_eq_true e.symm]
  · rw [decide_eq_false e, decide_eq_false (fun h => e h.symm)]
abbrev plq (l : Lnd) (A : Scn) (p : Nat) : List Nat := sg (fun i => i) (fun i => decide (0 < tmf A i)) p (lp l - p)
theorem bsv_opt {fB fT : Nat → Nat} {pm bm p : Nat} (sB : Srt (lsz l) fB (lb l)) (sT : Srt (tmf A) fT (lp l)) (hp : p ≤ lp l) (hpm : ∀ x, pm.testBit x = true ↔ (p ≤ x ∧ x < lp l ∧ 0 < tmf A x)) (hbm : ∀ x, bm.testBit x = true → x < lb l) : Opt (lsz l) (tmf A) (plq l A p) (fun x => bm.testBit x) (bsv l A fB fT pm bm).1 (bsv l A fB fT pm bm).2 := by
  refine opt_perm (srt_perm sT hp (q := fun x => pm.testBit x) (fun x => ?_)) (gre_opt (sg_pw (lb l) 0 (fun a b _ h1 h2 => (sB.2.2 a b h1 (by omega)).2)) (sg_pw (lb l) 0 (fun a b _ h1 h2 => (sB.2.2 a b h1 (by omega)).1)) (sg_pw (lp l) 0 (fun a b _ h1 h2 => (sT.2.2 a b h1 (by omega)).1)) (fun x hx => ?_))
  · have := hpm x
    simp only [decide_eq_true_eq]
    exact this
  · obtain ⟨i, hi, hf⟩ := sB.2.1 x (hbm x hx)
    exact (sg_mem (lb l) 0).mpr ⟨rfl, i, by omega, by omega, hf⟩
theorem plq_len (hl : LOk l) (p : Nat) : (plq l A p).length ≤ 7 := by
  have := sg_len (f := fun i => i) (q := fun i => decide (0 < tmf A i)) (lp l - p) p
  have := hl.p7
  show (sg (fun i => i) (fun i => decide (0 < tmf A i)) p (lp l - p)).length ≤ 7
  omega
theorem opt_bd (hl : LOk l) {M p m s : Nat} (hM : ∀ x, M.testBit x = true → x < lb l) (h : Opt (lsz l) (tmf A) (plq l A p) (fun x => M.testBit x) m s) : m ≤ 7 ∧ s ≤ 99 * m := by
  have := mq_bd _ _ _ _ (fun x hx => (hl.2.2.2.2.2.2.2.1 x (hM x hx)).2) h.1
  have := plq_len (A := A) hl p
  omega
/-- the two questions are one -/
theorem opt_step (hl : LOk l) {M p m s m' s' x : Nat} (hM : ∀ x, M.testBit x = true → x < lb l) (hp : p < lp l) (ht : 0 < tmf A p) (h : Opt (lsz l) (tmf A) (plq l A p) (fun x => M.testBit x) m s) (hx : M.testBit x = true) (hs : tmf A p ≤ lsz l x) (h' : Opt (lsz l) (tmf A) (plq l A (p + 1)) (fun y => (sdf M (2 ^ x)).testBit y) m' s') : (m' + 1 < m ∨ (m' + 1 = m ∧ s ≤ s' + lsz l x)) ∧ (gdb l A p M x = true ↔ (m = m' + 1 ∧ s = s' + lsz l x)) := by
  have a : Mq (lsz l) (tmf A) (plq l A p) (fun x => M.testBit x) (m' + 1) (s' + lsz l x) := by
    unfold plq
    rw [pl_t hp ht]
    refine mq_take hx hs ?_
    rw [dlt_sdf]
    exact h'.1
  refine ⟨h.2 _ _ a, ?_⟩
  rw [gdb_t]
  constructor
  · intro ⟨_, _, _, m1, s1, o1, o2⟩
    rw [dlt_sdf] at o1
    have e1 := opt_one o1 h'
    have e2 := opt_one o2 h
    omega
  · intro ⟨e1, e2⟩
    refine ⟨hx, ht, hs, m', s', ?_, ?_⟩
    · rw [dlt_sdf]
      exact h'
    · rw [← e1, ← e2]
      exact h
theorem ff_gd (hl : LOk l) {fB fT : Nat → Nat} {pm M p m s : Nat} (sB : Srt (lsz l) fB (lb l)) (sT : Srt (tmf A) fT (lp l)) (hp : p < lp l) (hpm : ∀ x, pm.testBit x = true ↔ (p + 1 ≤ x ∧ x < lp l ∧ 0 < tmf A x)) (hM : ∀ x, M.testBit x = true → x < lb l) (ht : 0 < tmf A p) (h : Opt (lsz l) (tmf A) (plq l A p) (fun x => M.testBit x) m s) (x : Nat) : ffT l A fB fT p pm M (wth (m, s)) x = gdb l A p M x := by
  have hM2 : ∀ y, (sdf M (2 ^ x)).testBit y = true → y < lb l := fun y hy => hM y (sdf_in hy)
  by_cases hx : M.testBit x = true
  · by_cases hs : tmf A p ≤ lsz l x
    · have o := bsv_opt (A := A) (bm := sdf M (2 ^ x)) sB sT (show p + 1 ≤ lp l from hp) hpm hM2
      have st := opt_step hl hM hp ht h hx hs o
      have b1 := opt_bd hl hM h
      have b2 := opt_bd hl hM2 o
      have b3 := (hl.2.2.2.2.2.2.2.1 x (hM x hx)).2
      have key : ((1000 - lsz l x) + wth (bsv l A fB fT pm (sdf M (2 ^ x))) = wth (m, s)) ↔ gdb l A p M x = true := by
        rw [st.2]
        have c := st.1
        unfold wth
        show (1000 - lsz l x) + (1000 * _ - _) = 1000 * m - s ↔ _
        omega
      unfold ffT
      rw [hx, decide_eq_true hs]
      cases hg : gdb l A p M x with
      | true => rw [decide_eq_true (key.mpr hg)]; rfl
      | false =>
        rw [decide_eq_false (fun e => by rw [key.mp e] at hg; cases hg)]
        rfl
    · rw [gdb_f (fun g => hs g.2.2.1)]
      unfold ffT
      rw [decide_eq_false hs, Bool.and_false]
      rfl
  · rw [gdb_f (fun g => hx g.1)]
    unfold ffT
    rw [show M.testBit x = false by simpa using hx]
    rfl
theorem ptx_0 {p : Nat} (h : ¬ 0 < tmf A p) : ptx l A p = none := fstF_none _ (fun j _ => gdb_f (fun g => h g.2.1))
theorem ptx_s {p x : Nat} (h : ptx l A p = some x) : x < lb l ∧ gdb l A p (avN l A p) x = true := ⟨(fstF_inv _ _ h).2.1, (fstF_inv _ _ h).1⟩
/-- if none is right for one, the others do as well -/
theorem opt_no (hl : LOk l) {p m s : Nat} (hp : p < lp l) (hx : ∀ x, (avN l A p).testBit x = true → tmf A p ≤ lsz l x → ∃ m' s', Opt (lsz l) (tmf A) (plq l A (p + 1)) (fun y => (sdf (avN l A p) (2 ^ x)).testBit y) m' s') (h : Opt (lsz l) (tmf A) (plq l A p) (fun x => (avN l A p).testBit x) m s) (hn : ptx l A p = none) : Opt (lsz l) (tmf A) (plq l A (p + 1)) (fun x => (avN l A p).testBit x) m s := by
  by_cases ht : 0 < tmf A p
  · have h2 := h
    unfold plq at h2
    rw [pl_t hp ht] at h2
    refine opt_skip h2 (fun x m' s' h1 h3 h4 h5 => ?_) (fun x h1 h3 => ?_)
    · rw [dlt_sdf] at h4
      have := (opt_step hl (av_in p) hp ht h h1 h3 h4).2.mpr h5
      rw [fstF_noneI _ hn x (av_in p x h1)] at this
      cases this
    · rw [dlt_sdf]
      exact hx x h1 h3
  · unfold plq at h ⊢
    rw [pl_f hp ht] at h
    exact h
end PU2
section PU3
variable {l : Lnd} {S : St} {E : zX} {d : Nat} {A : Scn}
theorem c_choose {Q : St → Prop} (hd : 4 ≤ d) (hL : LC l S) (hA : ScC l (S 26) A) (hO : AOk l A) (h : ∀ S' : St, Fr [50, 51, 52, 53] S S' → S' 50 0 = nI (ptn l A (lp l)) → S' 50 1 = ptw l A (lp l) → (∀ j, j < lp l → S' 51 j = oI (ptx l A j)) → Q S') : k_PutBy_choose E d S Q := by
  have p7 := hL.ok.p7
  have b10 := hL.ok.b10
  have lc : ∀ S' : St, Fr [50, 51, 52, 53] S S' → LC l S' := fun S' f1 => LC_fr hL (fun k h1 h2 => f1 k (by simp only [List.mem_cons, List.not_mem_nil, or_false]; omega))
  have sc : ∀ S' : St, Fr [50, 51, 52, 53] S S' → ScC l (S' 26) A := fun S' f1 => by
    rw [f1 26 (by decide)]
    exact hA
  refine w_PutBy_choose (by omega) (c_sortPeople (by omega) hL hA hO (fun S1 fT f1 sT vT => ?_))
  have F1 : Fr [50, 51, 52, 53] S S1 := f1.mono (by decide)
  refine c_sortBalls (lc S1 F1) (fun S2 fB f2 sB vB => ?_)
  have F2 : Fr [50, 51, 52, 53] S S2 := F1.trans (f2.mono (by decide))
  have vT2 : ∀ i, i < lp l → S2 52 i = nI (fT i) := fun i hi => by
    rw [f2 52 (by decide)]
    exact vT i hi
  refine fun S5 e5 S6 e6 => ?_
  have u5 : ∀ k, ¬ k = 50 → S5 k = S2 k := fun k hk => by rw [e5]; exact up_ne _ _ _ hk
  have u6 : ∀ k, ¬ k = 50 → S6 k = S2 k := fun k hk => by rw [e6, up_ne _ _ _ hk, u5 k hk]
  have F6 : Fr [50, 51, 52, 53] S S6 := fun k hk => by
    rw [u6 k (fun e => hk (by rw [e]; decide))]
    exact F2 k hk
  have a0 : S6 50 0 = 0 := by rw [e6, up_same, upd_ne _ _ (by decide), e5, up_same, upd_same]
  have a1 : S6 50 1 = 0 := by rw [e6, up_same, upd_same]
  refine c_crossPeople (by omega) (lc S6 F6) (sc S6 F6) hO (c_whiteBalls (by omega) (lc S6 F6) (sc S6 F6) ?_)
  have vT6 : ∀ i, i < lp l → S6 52 i = nI (fT i) := by rw [u6 52 (by decide)]; exact vT2
  have vB6 : ∀ i, i < lb l → S6 53 i = nI (fB i) := by rw [u6 53 (by decide)]; exact vB
  have pm0 : ∀ x, (crsM l A).testBit x = true ↔ (0 ≤ x ∧ x < lp l ∧ 0 < tmf A x) := fun x => by
    unfold crsM
    rw [mkN_bit]
    simp
  refine c_bestOf (by omega) (lc S6 F6) (sc S6 F6) hO sB vB6 sT vT6 (av_in (l := l) (A := A) 0) ?_
  have main : ∀ p, p ≤ lp l → ∀ (S' : St) (pm m s : Nat), Fr [50, 51, 52, 53] S S' → (∀ i, i < lp l → S' 52 i = nI (fT i)) → (∀ i, i < lb l → S' 53 i = nI (fB i)) → (∀ x, pm.testBit x = true ↔ (p ≤ x ∧ x < lp l ∧ 0 < tmf A x)) → Opt (lsz l) (tmf A) (plq l A p) (fun x => (avN l A p).testBit x) m s → S' 50 0 = nI (ptn l A p) → S' 50 1 = ptw l A p → (∀ j, j < p → S' 51 j = oI (ptx l A j)) → k_PutBy_choose_38 E d S' (nI pm) (nI (avN l A p)) (nI (wth (m, s))) p Q := by
    refine dn (lp l) ?_ (fun p hp ih => ?_)
    · intro S' pm m s F vt vb hpm ho v0 v1 vr
      exact w_PutBy_choose_38 (by omega) (ilp (lp l) (lc S' F).p (by omega) (by omega) (fun _ => h S' F v0 v1 vr) (fun h => by omega))
    · intro S' pm m s F vt vb hpm ho v0 v1 vr
      refine w_PutBy_choose_38 (by omega) (ilp (lp l) (lc S' F).p (by omega) (by omega) (fun h => by omega) (fun _ => ⟨by omega, fun S1 e1 => ?_⟩))
      have u1 : ∀ k, ¬ k = 51 → S1 k = S' k := fun k hk => by rw [e1]; exact up_ne _ _ _ hk
      have F1 : Fr [50, 51, 52, 53] S S1 := F.trans (by rw [e1]; exact Fr.up _ _ (by decide))
      have hin := av_in (l := l) (A := A) p
      have vt1 : ∀ i, i < lp l → S1 52 i = nI (fT i) := by rw [u1 52 (by decide)]; exact vt
      have vb1 : ∀ i, i < lb l → S1 53 i = nI (fB i) := by rw [u1 53 (by decide)]; exact vb
      have r1 : ptx l A p = none → ∀ j, j < p + 1 → S1 51 j = oI (ptx l A j) := fun hn j hj => by
        rw [e1, up_same]
        by_cases e : j = p
        · rw [e, upd_same, hn]
          rfl
        · rw [upd_ne _ _ e]
          exact vr j (by omega)
      have ex : ∀ pm' : Nat, (∀ x, pm'.testBit x = true ↔ (p + 1 ≤ x ∧ x < lp l ∧ 0 < tmf A x)) → ∀ x, (avN l A p).testBit x = true → tmf A p ≤ lsz l x → ∃ m' s', Opt (lsz l) (tmf A) (plq l A (p + 1)) (fun y => (sdf (avN l A p) (2 ^ x)).testBit y) m' s' := fun pm' hpm' x _ _ => ⟨_, _, bsv_opt sB sT (show p + 1 ≤ lp l from hp) hpm' (fun y hy => hin y (sdf_in hy))⟩
      have skip : ∀ pm' : Nat, (∀ x, pm'.testBit x = true ↔ (p + 1 ≤ x ∧ x < lp l ∧ 0 < tmf A x)) → ptx l A p = none → k_PutBy_choose_38 E d S1 (nI pm') (nI (avN l A p)) (nI (wth (m, s))) (p + 1) Q := fun pm' hpm' hn => by
        have n3 := av_none hn
        have := ih S1 pm' m s F1 vt1 vb1 hpm' (by rw [n3.1]; exact opt_no hL.ok hp (ex pm' hpm') ho hn) (by rw [n3.2.1, u1 50 (by decide)]; exact v0) (by rw [n3.2.2, u1 50 (by decide)]; exact v1) (r1 hn)
        rw [n3.1] at this
        exact this
      refine ife (fun e => ?_) (fun e => ?_)
      · rw [nI_tst (by omega)] at e
        have ht : ¬ 0 < tmf A p := fun ht => by
          rw [(hpm p).mpr ⟨Nat.le_refl _, hp, ht⟩] at e
          cases e
        refine skip pm (fun x => ?_) (ptx_0 ht)
        rw [hpm x]
        constructor
        · intro ⟨h1, h2, h3⟩
          refine ⟨?_, h2, h3⟩
          by_cases e : x = p
          · rw [e] at h3
            exact absurd h3 ht
          · omega
        · intro ⟨h1, h2, h3⟩
          exact ⟨by omega, h2, h3⟩
      · rw [nI_tst (by omega)] at e
        have e : pm.testBit p = true := by simpa using e
        have ht := ((hpm p).mp e).2.2
        rw [bt_eq p (by omega), nI_sdf]
        have hpm' : ∀ x, (sdf pm (2 ^ p)).testBit x = true ↔ (p + 1 ≤ x ∧ x < lp l ∧ 0 < tmf A x) := fun x => by
          rw [sdf_bit, Nat.testBit_two_pow]
          by_cases e : p = x
          · rw [decide_eq_true e]
            simp
            omega
          · rw [decide_eq_false e]
            simp only [Bool.not_false, Bool.and_true]
            rw [hpm x]
            omega
        have bd := opt_bd hL.ok hin ho
        refine c_firstFor (by omega) (lc S1 F1) (sc S1 F1) hO sB vb1 sT vt1 hin hp (show wth (m, s) < 1000000 by unfold wth; show 1000 * m - s < 1000000; omega) ?_
        rw [fstF_congr (lb l) (fun j _ => ff_gd hL.ok sB sT hp hpm' hin ht ho j)]
        rw [show fstF (gdb l A p (avN l A p)) (lb l) = ptx l A p from rfl]
        cases hx : ptx l A p with
        | none =>
          rw [if_pos (show oI none = -1 from rfl)]
          exact skip _ hpm' hx
        | some x =>
          have s3 := av_some hx
          have sx := ptx_s hx
          have hx10 := sx.1
          rw [if_neg (show ¬ oI (some x) = -1 from oI_ne (show x < 2 ^ 31 by omega))]
          have gx := gdb_t.mp sx.2
          have oo := bsv_opt (A := A) (bm := sdf (avN l A p) (2 ^ x)) sB sT (show p + 1 ≤ lp l from hp) hpm' (fun y hy => hin y (sdf_in hy))
          have st := (opt_step hL.ok hin hp ht ho gx.1 gx.2.2.1 oo).2.mp sx.2
          have b2 := opt_bd hL.ok (fun y hy => hin y (sdf_in hy)) oo
          have b3 := (hL.ok.2.2.2.2.2.2.2.1 x hx10).2
          refine w_PutBy_take (by omega) ⟨by omega, fun T1 t1 T2 t2 => ⟨by omega, ?_⟩⟩
          have ut1 : ∀ k, ¬ k = 51 → T1 k = S1 k := fun k hk => by rw [t1]; exact up_ne _ _ _ hk
          have ut2 : ∀ k, ¬ k = 50 → T2 k = T1 k := fun k hk => by rw [t2]; exact up_ne _ _ _ hk
          have G1 : Fr [50, 51, 52, 53] S T1 := F1.trans (by rw [t1]; exact Fr.up _ _ (by decide))
          have G2 : Fr [50, 51, 52, 53] S T2 := G1.trans (by rw [t2]; exact Fr.up _ _ (by decide))
          refine c_temperOf hL.ok sc25 (sc T2 G2) hp (fun T5 t5 => ?_)
          have ut5 : ∀ k, ¬ k = 50 → T5 k = T2 k := fun k hk => by rw [t5]; exact up_ne _ _ _ hk
          have G5 : Fr [50, 51, 52, 53] S T5 := G2.trans (by rw [t5]; exact Fr.up _ _ (by decide))
          refine w_PutBy_worthOf ⟨by omega, ?_⟩
          rw [(lc T5 G5).sz hx10, show (1000 : Int32) = nI 1000 from rfl, pk_sub (show lsz l x ≤ 1000 by omega), pk_sub (show 1000 - lsz l x ≤ wth (m, s) by unfold wth; show _ ≤ 1000 * m - s; omega)]
          have eb : (nI (avN l A p)) &&& (((1 : Int32) <<< (nI x &&& 31)) ^^^ ((-1) : Int32)) = nI (sdf (avN l A p) (2 ^ x)) := by
            rw [show (1 : Int32) <<< (nI x &&& 31) = bt x from rfl, bt_eq x (by omega), nI_sdf]
          have ew : wth (m, s) - (1000 - lsz l x) = wth ((bsv l A fB fT (sdf pm (2 ^ p)) (sdf (avN l A p) (2 ^ x))).1, (bsv l A fB fT (sdf pm (2 ^ p)) (sdf (avN l A p) (2 ^ x))).2) := by
            unfold wth
            show 1000 * m - s - (1000 - lsz l x) = 1000 * _ - _
            omega
          show k_PutBy_choose_38 E d T5 (nI (sdf pm (2 ^ p))) ((nI (avN l A p)) &&& (((1 : Int32) <<< (nI x &&& 31)) ^^^ ((-1) : Int32))) _ (p + 1) Q
          rw [eb, ew, ← s3.1]
          refine ih T5 _ _ _ G5 ?_ ?_ hpm' ?_ ?_ ?_ ?_
          · rw [ut5 52 (by decide), ut2 52 (by decide), ut1 52 (by decide)]
            exact vt1
          · rw [ut5 53 (by decide), ut2 53 (by decide), ut1 53 (by decide)]
            exact vb1
          · rw [s3.1]
            exact oo
          · rw [t5, up_same, upd_ne _ _ (by decide), t2, up_same, upd_same, ut1 50 (by decide), u1 50 (by decide), v0, nI_1, s3.2.1]
          · rw [t5, up_same, upd_same, s3.2.2, (lc T2 G2).sz hx10, t2, up_same, upd_ne _ _ (by decide), ut1 50 (by decide), u1 50 (by decide), v1]
          · intro j hj
            rw [ut5 51 (by decide), ut2 51 (by decide), t1, up_same]
            by_cases e : j = p
            · rw [e, upd_same, hx]
              rfl
            · rw [upd_ne _ _ e, e1, up_same, upd_ne _ _ e]
              exact vr j (by omega)
  exact main 0 (Nat.zero_le _) S6 (crsM l A) _ _ F6 vT6 vB6 pm0 (bsv_opt sB sT (Nat.zero_le _) pm0 (av_in 0)) a0 a1 (fun j hj => absurd hj (Nat.not_lt_zero j))
end PU3
noncomputable def vPutBy (G : Gst) (c : Int32) : Int32 := if c = 0 then nI (ptn (gl G) (gA G) (lp (gl G))) else ptw (gl G) (gA G) (lp (gl G))
noncomputable def vPut (G : Gst) (a : Int32) : Int32 := oI (ptx (gl G) (gA G) (tN a))
section PUX
variable {G : Gst} {S : St} {E : zX} {d : Nat} {Q : Int32 → St → Prop} {X : Nat → St → Prop}
theorem x_putBy {c : Int32} (hd : 20 ≤ d) (hG : GInv G) (hR : RelC G S) (hn : (S 1000 0).toNatClampNeg < 1000000) (h : cd3 false (ng 2 c) false = 0 → ∀ S', QC S S' → Q (vPutBy G c) S') (hX : ∀ k, cd3 false (ng 2 c) false = k + 1 → X k (upT S)) : k_x_putBy E d S c Q X := by
  refine w_x_putBy (by omega) (n_what (n := 1) (by omega) (by omega) hn (fun w hw ec => ?_) (fun e => hX 0 (by unfold cd3; rw [e]; rfl)))
  subst ec
  have h := h (by unfold cd3; rw [ng_f (by omega) (by omega)]; rfl)
  unfold vPutBy at h
  refine c_choose (by omega) hR.lc hR.sc hG.aok (fun S' f v0 v1 _ => ?_)
  have h := h S' (QC_fr f (fun k hk => by simp only [List.mem_cons, List.not_mem_nil, or_false] at hk; omega))
  rw [v0, v1]
  refine ife (fun e => ?_) (fun e => ?_)
  · rw [if_pos e] at h
    exact h
  · rw [if_neg e] at h
    exact h
theorem x_put {a : Int32} (hd : 20 ≤ d) (hG : GInv G) (hR : RelC G S) (hn : (S 1000 0).toNatClampNeg < 1000000) (h : cd3 (ng (lp (gl G)) a) false false = 0 → ∀ S', QC S S' → Q (vPut G a) S') (hX : ∀ k, cd3 (ng (lp (gl G)) a) false false = k + 1 → X k (upT S)) : k_x_put E d S a Q X := by
  have p7 := hG.1.p7
  refine w_x_put (by omega) (n_person (by omega) hR.lc hn (fun x hx ea => ?_) (fun e => hX 0 (by unfold cd3; rw [e]; rfl)))
  subst ea
  have h := h (by unfold cd3; rw [ng_f (by omega) hx]; rfl)
  unfold vPut at h
  rw [tN_nI (by omega)] at h
  refine c_choose (by omega) hR.lc hR.sc hG.aok (fun S' f _ _ vr => ⟨x, rfl, by omega, ?_⟩)
  rw [vr x hx]
  exact h S' (QC_fr f (fun k hk => by simp only [List.mem_cons, List.not_mem_nil, or_false] at hk; omega))
end PUX
