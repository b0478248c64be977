/-! PLANS: where one is best fired off -/
def hby (l : Lnd) (A : Scn) (x c : Nat) : Nat → Nat
  | 0 => 0
  | k + 1 => if A 6 x / 10 < nI (far (lw l) c (lhm l k)) then hby l A x c k else hby l A x c k + 1
theorem hby_le {l : Lnd} {A : Scn} {x c : Nat} : ∀ n, hby l A x c n ≤ n
  | 0 => Nat.le_refl 0
  | n + 1 => by
    have := hby_le (l := l) (A := A) (x := x) (c := c) n
    rw [hby]
    split <;> omega
/-- of the first k the first that is least: from the first on; from another one on -/
def amin (f : Nat → Nat) : Nat → Nat
  | 0 => 0
  | k + 1 => if f (k + 1) < f (amin f k) then k + 1 else amin f k
def bmin (f : Nat → Nat) (o : Nat) : Nat → Nat
  | 0 => o
  | k + 1 => if f k < f (bmin f o k) then k else bmin f o k
theorem amin_ok (f : Nat → Nat) : ∀ n, amin f n ≤ n ∧ (∀ j, j ≤ n → f (amin f n) ≤ f j) ∧ ∀ j, j < amin f n → f (amin f n) < f j
  | 0 => ⟨Nat.le_refl 0, fun j hj => by rw [show j = 0 by omega]; exact Nat.le_refl _, fun j hj => absurd hj (Nat.not_lt_zero j)⟩
  | n + 1 => by
    obtain ⟨h1, h2, h3⟩ := amin_ok f n
    rw [amin]
    by_cases hc : f (n + 1) < f (amin f n)
    · rw [if_pos hc]
      refine ⟨Nat.le_refl _, fun j hj => ?_, fun j hj => ?_⟩
      · by_cases e : j = n + 1
        · rw [e]
          exact Nat.le_refl _
        · have := h2 j (by omega)
          omega
      · have := h2 j (by omega)
        omega
    · rw [if_neg hc]
      refine ⟨by omega, fun j hj => ?_, h3⟩
      by_cases e : j = n + 1
      · rw [e]
        omega
      · exact h2 j (by omega)
theorem bmin_ok (f : Nat → Nat) (o : Nat) : ∀ n, f (bmin f o n) ≤ f o ∧ (∀ j, j < n → f (bmin f o n) ≤ f j) ∧ (bmin f o n = o ∨ (bmin f o n < n ∧ ∀ j, j < bmin f o n → f (bmin f o n) < f j))
  | 0 => ⟨Nat.le_refl _, fun j hj => absurd hj (Nat.not_lt_zero j), Or.inl rfl⟩
  | n + 1 => by
    obtain ⟨h1, h2, h3⟩ := bmin_ok f o n
    rw [bmin]
    by_cases hc : f n < f (bmin f o n)
    · rw [if_pos hc]
      refine ⟨by omega, fun j hj => ?_, Or.inr ⟨by omega, fun j hj => ?_⟩⟩
      · by_cases e : j = n
        · rw [e]
          exact Nat.le_refl _
        · have := h2 j (by omega)
          omega
      · have := h2 j hj
        omega
    · rw [if_neg hc]
      refine ⟨h1, fun j hj => ?_, h3.elim Or.inl (fun h => Or.inr ⟨by omega, h.2⟩)⟩
      by_cases e : j = n
      · rw [e]
        omega
      · exact h2 j (by omega)
theorem min_same {f : Nat → Nat} {o n : Nat} (ho : o < n) (hi : ∀ j, j < n → f j = f o → j = o) : bmin f o n = amin f (n - 1) := by
  obtain ⟨a1, a2, a3⟩ := amin_ok f (n - 1)
  obtain ⟨b1, b2, b3⟩ := bmin_ok f o n
  have q1 := a2 o (by omega)
  have q2 := b2 (amin f (n - 1)) (by omega)
  rcases b3 with e | ⟨b4, b5⟩
  · rw [e] at q2
    rw [e]
    exact (hi _ (by omega) (by omega)).symm
  · have q3 := a2 (bmin f o n) (by omega)
    by_cases l1 : bmin f o n < amin f (n - 1)
    · have := a3 _ l1
      omega
    · by_cases l2 : amin f (n - 1) < bmin f o n
      · have := b5 _ l2
        omega
      · omega
theorem adf_0 {a b : Nat} (h : adf a b = 0) : a = b := by
  unfold adf at h
  split at h <;> omega
theorem far_0 {w a b : Nat} (h : far w a b = 0) : a = b := by
  unfold far at h
  have h1 := adf_0 (a := a % w) (b := b % w) (by omega)
  have h2 := adf_0 (a := a / w) (b := b / w) (by omega)
  rw [← Nat.div_add_mod a w, ← Nat.div_add_mod b w, h1, h2]
theorem adf_s (a : Nat) : adf a a = 0 := by
  unfold adf
  split <;> omega
theorem far_s (w a : Nat) : far w a a = 0 := by
  unfold far
  rw [adf_s, adf_s]
section FI
variable {l : Lnd} {A : Scn} {G : Gst} {S : St} {E : zX} {d : Nat} {Q : Int32 → St → Prop} {X : Nat → St → Prop}
def fky (l : Lnd) (A : Scn) (x c : Nat) : Nat := hby l A x c (lp l) * 1000 + far (lw l) c (cel A x)
theorem LOk.far (hl : LOk l) {a b : Nat} (ha : a < lw l * lh l) (hb : b < lw l * lh l) : far (lw l) a b < 1000 := far_lt hl.w6 hl.2.2.2.1 hl.w1 ha hb
theorem fky_lt (hl : LOk l) (hO : COk l A) {x a b : Nat} (hx : x < lb l) (ha : a < lw l * lh l) (hb : b < lw l * lh l) : fky l A x a < fky l A x b ↔ hby l A x a (lp l) < hby l A x b (lp l) ∨ (hby l A x a (lp l) = hby l A x b (lp l) ∧ far (lw l) a (cel A x) < far (lw l) b (cel A x)) := by
  have h1 := hl.far ha (hO x hx).2
  have h2 := hl.far hb (hO x hx).2
  unfold fky
  omega
theorem c_homes {x c : Nat} (hd : 1 ≤ d) (hL : LC l S) (hA : ScC l (S 26) A) (hx : x < lb l) (hc : c < lw l * lh l) (h : Q (nI (hby l A x c (lp l))) S) : k_Plans_homesInReach E d S (nI x) (nI c) Q := by
  have p7 := hL.ok.p7
  refine w_Plans_homesInReach hd ?_
  refine dn (P := fun k => k_Plans_homesInReach_5 E d S x c (hby l A x c k) k Q) (lp l) ?_ (fun k hk ih => ?_) 0 (Nat.zero_le _)
  · exact w_Plans_homesInReach_5 hd (ilp (lp l) hL.p (by omega) (by omega) (fun _ => h) (fun h => absurd h (Nat.lt_irrefl _)))
  · refine w_Plans_homesInReach_5 hd (ilp (lp l) hL.p (by omega) (by omega) (fun h => by omega) (fun _ => ⟨by omega, ?_⟩))
    refine c_far hL rfl (hL.hm hk) hc (hL.ok.hm hk) (c_heldIn (q := 25) hL.ok sc25 hA hx ?_)
    rw [hby] at ih
    refine ife (fun e => ?_) (fun e => ?_)
    · rw [if_pos e] at ih
      exact ih
    · rw [if_neg e] at ih
      exact ih
theorem e_homes {x c : Nat} {y : Int32} (hd : 2 ≤ d) (hL : LM l S) (hA : ScM l (S 77) 0 A) (hx : x < lb l) (hy : y = nI c) (hc : c < lw l * lh l) (h : Q (nI (hby l A x c (lp l))) S) : k_m_homesBy E d S (nI x) y Q := by
  have p7 := hL.ok.p7
  have b10 := hL.ok.b10
  refine w_m_homesBy (by omega) ?_
  refine dn (P := fun k => k_m_homesBy_5 E d S x y (nI (hby l A x c k)) k Q) (lp l) ?_ (fun k hk ih => ?_) 0 (Nat.zero_le _)
  · exact w_m_homesBy_5 (by omega) (ilp (lp l) hL.p (by omega) (by omega) (fun _ => h) (fun h => absurd h (Nat.lt_irrefl _)))
  · refine w_m_homesBy_5 (by omega) (ilp (lp l) hL.p (by omega) (by omega) (fun h => by omega) (fun _ => ⟨by omega, ?_⟩))
    refine e_farOf (by omega) hL hy (hL.hm hk) hc (hL.ok.hm hk) ⟨by omega, ?_⟩
    rw [show S 77 (39 + x) = A 6 x by have := hA 6 x (by decide) hx; rw [Nat.zero_add] at this; exact this]
    rw [hby] at ih
    refine ife (fun e => ?_) (fun e => ?_)
    · rw [if_pos e] at ih
      rw [show nI (hby l A x c k) + (0 : Int32) = nI (hby l A x c k) from nI_add _ 0]
      exact ih
    · rw [if_neg e] at ih
      rw [nI_1]
      exact ih
theorem bmin_lt {f : Nat → Nat} {o n k : Nat} (ho : o < n) (hk : k ≤ n) : bmin f o k < n := by
  rcases (bmin_ok f o k).2.2 with e | e
  · rw [e]
    exact ho
  · exact Nat.lt_of_lt_of_le e.1 hk
theorem c_best {x : Nat} (hd : 3 ≤ d) (hL : LC l S) (hA : ScC l (S 26) A) (hO : COk l A) (hx : x < lb l) (h : Q (nI (bmin (fky l A x) (cel A x) (lw l * lh l))) S) : k_Plans_bestCellFor E d S (nI x) Q := by
  have c36 := hL.ok.c36
  have p7 := hL.ok.p7
  obtain ⟨o1, o2⟩ := hO x hx
  refine w_Plans_bestCellFor (by omega) (c_cellOf (q := 25) hL.ok sc25 hA hx ?_)
  rw [o1]
  refine c_homes (by omega) hL hA hx o2 ?_
  refine dn (P := fun k => k_Plans_bestCellFor_22 E d S x (nI (cel A x)) (nI (bmin (fky l A x) (cel A x) k)) (nI (hby l A x (bmin (fky l A x) (cel A x) k) (lp l))) k Q) (lw l * lh l) ?_ (fun k hk ih => ?_) 0 (Nat.zero_le _)
  · exact w_Plans_bestCellFor_22 (by omega) (ilp (lw l * lh l) hL.cells (by omega) (by omega) (fun _ => h) (fun h => absurd h (Nat.lt_irrefl _)))
  · refine w_Plans_bestCellFor_22 (by omega) (ilp (lw l * lh l) hL.cells (by omega) (by omega) (fun h => by omega) (fun _ => ?_))
    have blt : bmin (fky l A x) (cel A x) k < lw l * lh l := bmin_lt o2 (by omega)
    have iff := fky_lt hL.ok hO hx hk blt
    rw [bmin] at ih
    generalize bmin (fky l A x) (cel A x) k = b at *
    have g1 := hby_le (l := l) (A := A) (x := x) (c := k) (lp l)
    have g2 := hby_le (l := l) (A := A) (x := x) (c := b) (lp l)
    have f1 := hL.ok.far hk o2
    have f2 := hL.ok.far blt o2
    refine c_homes (by omega) hL hA hx hk ?_
    refine ilt (by omega) (by omega) (fun e => ?_) (fun e => ?_)
    · rw [if_pos (iff.mpr (Or.inl e))] at ih
      exact ih
    · refine ife (fun e2 => ?_) (fun e2 => ?_)
      · have e2 := (nI_eq (by omega) (by omega)).mp e2
        refine c_far hL rfl rfl hk o2 (c_far hL rfl rfl blt o2 ?_)
        refine ilp _ rfl (by omega) (by omega) (fun e3 => ?_) (fun e3 => ?_)
        · rw [if_neg (fun hh => by have := iff.mp hh; omega)] at ih
          exact ih
        · rw [if_pos (iff.mpr (Or.inr ⟨e2, e3⟩))] at ih
          exact ih
      · have e2 : ¬ hby l A x k (lp l) = hby l A x b (lp l) := fun hh => e2 (by rw [hh])
        rw [if_neg (fun hh => by have := iff.mp hh; omega)] at ih
        exact ih
theorem fky_inj (hl : LOk l) (hO : COk l A) {x : Nat} (hx : x < lb l) : ∀ j, j < lw l * lh l → fky l A x j = fky l A x (cel A x) → j = cel A x := fun j hj h => by
  have h1 := hl.far hj (hO x hx).2
  unfold fky at h
  rw [far_s] at h
  exact far_0 (w := lw l) (by omega)
end FI
/-! the call -/
def vFire (G : Gst) (a c : Int32) : Int32 := if c = 0 then nI (amin (fky (gl G) (gA G) (tN a)) (lw (gl G) * lh (gl G) - 1)) else nI (hby (gl G) (gA G) (tN a) (amin (fky (gl G) (gA G) (tN a)) (lw (gl G) * lh (gl G) - 1)) (lp (gl G)))
def cFire (G : Gst) (a c : Int32) : Nat := cd3 (ng (lb (gl G)) a) (ng 2 c) false
section FJ
variable {G : Gst} {S : St} {E : zX} {d : Nat} {Q : Int32 → St → Prop} {X : Nat → St → Prop}
theorem x_fire {a c : Int32} (hd : 20 ≤ d) (hG : GInv G) (hR : RelC G S) (hn : (S 1000 0).toNatClampNeg < 1000000) (h : cFire G a c = 0 → ∀ S', QC S S' → Q (vFire G a c) S') (hX : ∀ k, cFire G a c = k + 1 → X k (upT S)) : k_x_fire E d S a c Q X := by
  have b10 := hG.1.b10
  refine w_x_fire (by omega) (n_ball (by omega) hR.lc hn (fun x hx ea => ?_) (fun e => hX 0 (by unfold cFire cd3; rw [e]; rfl)))
  subst ea
  refine n_what (n := 1) (by omega) (by omega) hn (fun y hy eb => ?_) (fun e => hX 0 (by unfold cFire cd3; rw [e, ng_f (by omega) hx]; rfl))
  subst eb
  have h := h (by unfold cFire cd3; rw [ng_f (by omega) hx, ng_f (by omega) (by omega)]; rfl) S (QC.refl S)
  unfold vFire at h
  obtain ⟨o1, o2⟩ := hG.cok x hx
  rw [tN_nI (by omega), ← min_same o2 (fky_inj hG.1 hG.cok hx)] at h
  refine c_best (by omega) hR.lc hR.sc hG.cok hx ?_
  refine ife (fun e => ?_) (fun e => ?_)
  · rw [if_pos e] at h
    exact h
  · rw [if_neg e] at h
    exact c_homes (by omega) hR.lc hR.sc hx (bmin_lt o2 (Nat.le_refl _)) h
theorem m_fire {a c : Int32} (hd : 20 ≤ d) (hG : GInv G) (hR : RelM G S) (h : ∀ S' v, QM S S' → S' 65 0 = nI (cFire G a c) → (cFire G a c = 0 → v = vFire G a c) → Q v S') : k_m_fire E d S a c Q := by
  have b10 := hG.1.b10
  have c36 := hG.1.c36
  have p7 := hG.1.p7
  refine w_m_fire (by omega) (fun S1 e1 => ?_)
  have q1 : QM S S1 := by
    rw [e1]
    exact QM_up _ (by decide)
  have t1 : S1 65 0 = 0 := by rw [e1, up_same, upd_same]
  have L1 := LM_qm hR.lm q1
  have bad : cFire G a c = 1 → Q 0 (up S1 65 0 1) := fun hc => h _ _ (q1.trans (QM_up _ (by decide))) (by rw [up_same, upd_same, hc]; rfl) (fun hh => by rw [hh] at hc; cases hc)
  have n1 : ¬ (1 : Int32) = 0 := by decide
  refine e_isBall (by omega) L1 t1 (fun x hx ea => ?_) (fun e => ?_)
  · subst ea
    rw [if_neg n1]
    refine e_isWhat (n := 1) (by omega) (by omega) t1 (fun y hy eb => ?_) (fun e => ?_)
    · subst eb
      rw [if_neg n1]
      have c0 : cFire G (nI x) (nI y) = 0 := by unfold cFire cd3; rw [ng_f (by omega) hx, ng_f (by omega) (by omega)]; rfl
      have A1 : ScM (gl G) (S1 77) 0 (gA G) := ScM_lo hG.1 hR.sc (fun i hi => q1.2.2 i hi)
      have h : Q (vFire G (nI x) (nI y)) S1 := h S1 _ q1 (by rw [t1, c0]; rfl) (fun _ => rfl)
      unfold vFire at h
      rw [tN_nI (by omega)] at h
      obtain ⟨o1, o2⟩ := hG.cok x hx
      refine ⟨29 + x, nI_add 29 x, by omega, ?_⟩
      rw [show S1 77 (29 + x) = nI (cel (gA G) x) by rw [← o1]; have := A1 5 x (by decide) hx; rw [Nat.zero_add] at this; exact this]
      have e12 : S1 65 1 * S1 65 2 = nI (lw (gl G) * lh (gl G)) := by
        rw [L1.w, L1.h]
        exact pk_mul _ _
      have go : ∀ k, k ≤ lw (gl G) * lh (gl G) - 1 → k_m_fire_40 E d S1 (nI x) (nI y) (nI (amin (fky (gl G) (gA G) x) k)) (nI (cel (gA G) x)) (k + 1) Q := by
        refine dn _ ?_ (fun k hk ih => ?_)
        · refine w_m_fire_40 (by omega) (ilp (lw (gl G) * lh (gl G)) e12 (by omega) (by omega) (fun _ => ?_) (fun h => by omega))
          have alt := (amin_ok (fky (gl G) (gA G) x) (lw (gl G) * lh (gl G) - 1)).1
          refine ife (fun e => ?_) (fun e => ?_)
          · rw [if_pos e] at h
            exact h
          · rw [if_neg e] at h
            exact e_homes (by omega) L1 A1 hx rfl (by omega) h
        · refine w_m_fire_40 (by omega) (ilp (lw (gl G) * lh (gl G)) e12 (by omega) (by omega) (fun h => by omega) (fun _ => ?_))
          have alt := (amin_ok (fky (gl G) (gA G) x) k).1
          have hk1 : k + 1 < lw (gl G) * lh (gl G) := by omega
          have blt : amin (fky (gl G) (gA G) x) k < lw (gl G) * lh (gl G) := by omega
          have iff := fky_lt hG.1 hG.cok hx hk1 blt
          rw [amin] at ih
          generalize amin (fky (gl G) (gA G) x) k = b at *
          have g1 := hby_le (l := gl G) (A := gA G) (x := x) (c := k + 1) (lp (gl G))
          have g2 := hby_le (l := gl G) (A := gA G) (x := x) (c := b) (lp (gl G))
          have f1 := hG.1.far hk1 o2
          have f2 := hG.1.far blt o2
          refine e_homes (by omega) L1 A1 hx rfl hk1 (e_homes (by omega) L1 A1 hx rfl blt ?_)
          have sb : ∀ p q : Nat, p ≤ 7 → q ≤ 7 → ((nI p - nI q < 0) ↔ p < q) ∧ ((nI p - nI q = 0) ↔ p = q) := by
            intro p q hp hq
            have : ∀ p, p < 8 → ∀ q, q < 8 → ((nI p - nI q < 0) ↔ p < q) ∧ ((nI p - nI q = 0) ↔ p = q) := by decide +kernel
            exact this p (by omega) q (by omega)
          obtain ⟨s1, s2⟩ := sb _ _ (Nat.le_trans g1 p7) (Nat.le_trans g2 p7)
          refine ife (fun e => ?_) (fun e => ?_)
          · rw [if_pos (iff.mpr (Or.inl (s1.mp e)))] at ih
            exact ih
          · refine ife (fun e2 => ?_) (fun e2 => ?_)
            · refine e_farOf (by omega) L1 rfl rfl hk1 o2 (e_farOf (by omega) L1 rfl rfl blt o2 ?_)
              have e2 := s2.mp e2
              refine ilp _ rfl (by omega) (by omega) (fun e3 => ?_) (fun e3 => ?_)
              · rw [if_neg (fun hh => by have := iff.mp hh; omega)] at ih
                exact ih
              · rw [if_pos (iff.mpr (Or.inr ⟨e2, e3⟩))] at ih
                exact ih
            · rw [if_neg (fun hh => by have := iff.mp hh; exact this.elim (fun t => e (s1.mpr t)) (fun t => e2 (s2.mpr t.1)))] at ih
              exact ih
      exact go 0 (Nat.zero_le _)
    · rw [if_pos rfl]
      exact bad (by unfold cFire cd3; rw [ng_f (by omega) hx, show ng 2 c = true from decide_eq_true e]; rfl)
  · rw [if_pos rfl]
    exact bad (by unfold cFire cd3; rw [show ng (lb (gl G)) a = true from decide_eq_true e]; rfl)
end FJ
