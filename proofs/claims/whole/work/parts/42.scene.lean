/-! THE CLASS: land, scenes, what puffballs reach and set off -/
def encC (t : Tok) : Int32 := if t.1 = 0 then nI t.2 else if t.1 = 1 then (-20) - nI t.2 else if t.1 = 2 then -3 else if t.1 = 3 then -1 else if t.1 = 4 then -2 else if t.1 = 5 then -4 else if t.1 = 6 then -5 else if t.1 = 7 then -6 else if t.1 = 8 then -7 else if t.1 = 9 then -8 else -9
def RuC (r : Rul) (n : Int32) (f : Nat → Int32) : Prop := n = nI r.1 ∧ ∀ i, i < r.1 → f i = encC (r.2 i)
/-- the land in the class -/
def LC (l : Lnd) (S : St) : Prop := LOk l ∧ S 3 0 = nI (lw l) ∧ S 3 1 = nI (lh l) ∧ S 3 2 = nI (lw l * lh l) ∧ S 3 3 = nI (lp l) ∧ S 3 4 = nI (lb l) ∧ (∀ i, i < lp l → S 4 i = nI (lhm l i)) ∧ (∀ x, x < lb l → S 5 x = nI (lsz l x)) ∧ (∀ c, c < lw l * lh l → S 10 c = nI (c % lw l) ∧ S 11 c = nI (c / lw l)) ∧ RuC (lri l) (S 6 1) (S 7) ∧ RuC (lbu l) (S 8 1) (S 9)
theorem LC_fr {l : Lnd} {S S' : St} (h : LC l S) (hf : ∀ k, 3 ≤ k → k ≤ 11 → S' k = S k) : LC l S' := by
  unfold LC
  rw [hf 3 (by decide) (by decide), hf 4 (by decide) (by decide), hf 5 (by decide) (by decide), hf 6 (by decide) (by decide), hf 7 (by decide) (by decide), hf 8 (by decide) (by decide), hf 9 (by decide) (by decide), hf 10 (by decide) (by decide), hf 11 (by decide) (by decide)]
  exact h
section LCS
variable {l : Lnd} {S : St}
theorem LC.ok (h : LC l S) : LOk l := h.1
theorem LC.w (h : LC l S) : S 3 0 = nI (lw l) := h.2.1
theorem LC.cells (h : LC l S) : S 3 2 = nI (lw l * lh l) := h.2.2.2.1
theorem LC.p (h : LC l S) : S 3 3 = nI (lp l) := h.2.2.2.2.1
theorem LC.b (h : LC l S) : S 3 4 = nI (lb l) := h.2.2.2.2.2.1
theorem LC.hm (h : LC l S) {i : Nat} (hi : i < lp l) : S 4 i = nI (lhm l i) := h.2.2.2.2.2.2.1 i hi
theorem LC.sz (h : LC l S) {x : Nat} (hx : x < lb l) : S 5 x = nI (lsz l x) := h.2.2.2.2.2.2.2.1 x hx
theorem LC.cr (h : LC l S) {c : Nat} (hc : c < lw l * lh l) : S 10 c = nI (c % lw l) ∧ S 11 c = nI (c / lw l) := h.2.2.2.2.2.2.2.2.1 c hc
theorem LC.ri (h : LC l S) : RuC (lri l) (S 6 1) (S 7) := h.2.2.2.2.2.2.2.2.2.1
theorem LC.bu (h : LC l S) : RuC (lbu l) (S 8 1) (S 9) := h.2.2.2.2.2.2.2.2.2.2
theorem LOk.p7 (h : LOk l) : lp l ≤ 7 := h.2.2.2.2.1
theorem LOk.b10 (h : LOk l) : lb l ≤ 10 := h.2.2.2.2.2.1
theorem LOk.hm (h : LOk l) {i : Nat} (hi : i < lp l) : lhm l i < lw l * lh l := h.2.2.2.2.2.2.1 i hi
theorem LOk.c36 (h : LOk l) : lw l * lh l ≤ 36 := Nat.mul_le_mul h.2.1 h.2.2.2.1
theorem LOk.w1 (h : LOk l) : 1 ≤ lw l := h.1
theorem LOk.w6 (h : LOk l) : lw l ≤ 6 := h.2.1
end LCS
theorem sgn {u v : Nat} (hu : u < 1000) (hv : v < 1000) : (0 ≤ nI u - nI v) ↔ v ≤ u := by
  rw [Int32.le_iff_toInt_le, pk_sub_toInt (by omega) (by omega)]
  show (0 : Int) ≤ _ ↔ _
  omega
theorem adx {u v : Nat} (hu : u < 1000) (hv : v < 1000) : (v ≤ u → nI u - nI v = nI (adf u v)) ∧ (¬ v ≤ u → -(nI u - nI v) = nI (adf u v)) := by
  unfold adf
  refine ⟨fun h => ?_, fun h => ?_⟩
  · rw [if_neg (by omega), pk_sub h]
  · rw [if_pos (by omega), Int32.neg_sub, pk_sub (by omega)]
theorem dm_lt {c w h : Nat} (hc : c < w * h) (hw : w ≤ 6) (hh : h ≤ 6) (h1 : 1 ≤ w) : c % w < 1000 ∧ c / w < 1000 := by
  have := Nat.mod_lt c h1
  have := Nat.div_le_self c w
  have := Nat.mul_le_mul hw hh
  omega
section CL
variable {l : Lnd} {S : St} {E : zX} {d q : Nat} {A : Scn}
theorem c_far {x y : Int32} {a b : Nat} {Q : Int32 → St → Prop} (hL : LC l S) (hx : x = nI a) (hy : y = nI b) (ha : a < lw l * lh l) (hb : b < lw l * lh l) (h : Q (nI (far (lw l) a b)) S) : k_Land_far E d S x y Q := by
  subst hx
  subst hy
  have h36 := hL.ok.c36
  have w1 := hL.ok.w1
  obtain ⟨a1, a2⟩ := dm_lt ha hL.ok.w6 hL.ok.2.2.2.1 w1
  obtain ⟨b1, b2⟩ := dm_lt hb hL.ok.w6 hL.ok.2.2.2.1 w1
  refine w_Land_far ⟨by omega, by omega, by omega, by omega, ?_⟩
  rw [(hL.cr ha).1, (hL.cr ha).2, (hL.cr hb).1, (hL.cr hb).2]
  unfold far at h
  refine ife (fun h1 => ?_) (fun h1 => ?_)
  · rw [sgn a1 b1] at h1
    rw [(adx a1 b1).1 h1]
    refine ife (fun h2 => ?_) (fun h2 => ?_)
    · rw [sgn a2 b2] at h2
      rw [(adx a2 b2).1 h2, nI_add]
      exact h
    · rw [sgn a2 b2] at h2
      rw [(adx a2 b2).2 h2, nI_add]
      exact h
  · rw [sgn a1 b1] at h1
    rw [(adx a1 b1).2 h1]
    refine ife (fun h2 => ?_) (fun h2 => ?_)
    · rw [sgn a2 b2] at h2
      rw [(adx a2 b2).1 h2, nI_add]
      exact h
    · rw [sgn a2 b2] at h2
      rw [(adx a2 b2).2 h2, nI_add]
      exact h
theorem far_lt {w h a b : Nat} (hw : w ≤ 6) (hh : h ≤ 6) (h1 : 1 ≤ w) (ha : a < w * h) (hb : b < w * h) : far w a b < 1000 := by
  unfold far
  have g1 := Nat.mod_lt a h1
  have g2 := Nat.mod_lt b h1
  have g3 := Nat.div_le_self a w
  have g4 := Nat.div_le_self b w
  have g5 := Nat.mul_le_mul hw hh
  have adl : ∀ u v, adf u v ≤ u + v := by
    intro u v
    unfold adf
    split <;> omega
  have g6 := adl (a % w) (b % w)
  have g7 := adl (a / w) (b / w)
  omega
/-! getters -/
theorem c_temperOf {x : Nat} {Q : Int32 → St → Prop} (hl : LOk l) (hq : Sc q) (hA : ScC l (S (q + 1)) A) (hx : x < lp l) (h : Q (A 1 x) S) : k_Scene_temperOf E d S q (nI x) Q := by
  have := hl.p7
  refine w_Scene_temperOf hq ⟨by omega, ?_⟩
  rw [show S (q + 1) (9 + x) = A 1 x from hA.1 1 x (by decide) hx]
  exact h
theorem c_mildOf {x : Nat} {Q : Int32 → St → Prop} (hl : LOk l) (hq : Sc q) (hA : ScC l (S (q + 1)) A) (hx : x < lp l) (h : Q (A 4 x) S) : k_Scene_mildOf E d S q (nI x) Q := by
  have := hl.p7
  refine w_Scene_mildOf hq ⟨by omega, ?_⟩
  rw [show S (q + 1) (2 + x) = A 4 x from hA.1 4 x (by decide) hx]
  exact h
theorem c_shoutedBy {x : Nat} {Q : Int32 → St → Prop} (hl : LOk l) (hq : Sc q) (hA : ScC l (S (q + 1)) A) (hx : x < lp l) (h : Q (A 2 x) S) : k_Scene_shoutedBy E d S q (nI x) Q := by
  have := hl.p7
  refine w_Scene_shoutedBy hq ⟨by omega, ?_⟩
  rw [show S (q + 1) (16 + x) = A 2 x from hA.1 2 x (by decide) hx]
  exact h
theorem c_heardBy {x : Nat} {Q : Int32 → St → Prop} (hl : LOk l) (hq : Sc q) (hA : ScC l (S (q + 1)) A) (hx : x < lp l) (h : Q (A 3 x) S) : k_Scene_heardBy E d S q (nI x) Q := by
  have := hl.p7
  refine w_Scene_heardBy hq ⟨by omega, ?_⟩
  rw [show S (q + 1) (23 + x) = A 3 x from hA.1 3 x (by decide) hx]
  exact h
theorem c_heldIn {x : Nat} {Q : Int32 → St → Prop} (hl : LOk l) (hq : Sc q) (hA : ScC l (S (q + 1)) A) (hx : x < lb l) (h : Q (A 6 x) S) : k_Scene_heldIn E d S q (nI x) Q := by
  have := hl.b10
  refine w_Scene_heldIn hq ⟨by omega, ?_⟩
  rw [show S (q + 1) (30 + x) = A 6 x from hA.1 6 x (by decide) hx]
  exact h
theorem c_ageOf {x : Nat} {Q : Int32 → St → Prop} (hl : LOk l) (hq : Sc q) (hA : ScC l (S (q + 1)) A) (hx : x < lb l) (h : Q (A 7 x) S) : k_Scene_ageOf E d S q (nI x) Q := by
  have := hl.b10
  refine w_Scene_ageOf hq ⟨by omega, ?_⟩
  rw [show S (q + 1) (40 + x) = A 7 x from hA.1 7 x (by decide) hx]
  exact h
theorem c_ownerOf {x : Nat} {Q : Int32 → St → Prop} (hl : LOk l) (hq : Sc q) (hA : ScC l (S (q + 1)) A) (hx : x < lb l) (h : Q (A 8 x) S) : k_Scene_ownerOf E d S q (nI x) Q := by
  have := hl.b10
  refine w_Scene_ownerOf hq ⟨by omega, ?_⟩
  rw [show S (q + 1) (50 + x) = A 8 x from hA.1 8 x (by decide) hx]
  exact h
theorem c_cellOf {x : Nat} {Q : Int32 → St → Prop} (hl : LOk l) (hq : Sc q) (hA : ScC l (S (q + 1)) A) (hx : x < lb l) (h : Q (A 5 x) S) : k_Scene_cellOf E d S q (nI x) Q := by
  have := hl.b10
  refine w_Scene_cellOf hq ⟨by omega, ?_⟩
  rw [show S (q + 1) (60 + x) = A 5 x from hA.1 5 x (by decide) hx]
  exact h
theorem c_day {Q : Int32 → St → Prop} (hq : Sc q) (hA : ScC l (S (q + 1)) A) (h : Q (A 0 0) S) : k_Scene_day E d S q Q := by
  refine w_Scene_day hq ?_
  rw [show S (q + 1) 0 = A 0 0 from hA.1 0 0 (by decide) (by show 0 < rng l 0; exact Nat.one_pos)]
  exact h
theorem c_guards {Q : Int32 → St → Prop} (hq : Sc q) (hA : ScC l (S (q + 1)) A) (h : Q (nI (grdM l A)) S) : k_Scene_guards E d S q Q := by
  refine w_Scene_guards hq ?_
  rw [hA.2]
  exact h
theorem c_isWhite {x : Nat} {Q : Int32 → St → Prop} (hl : LOk l) (hq : Sc q) (hA : ScC l (S (q + 1)) A) (hx : x < lb l) (h : Q (zb (A 6 x = 0)) S) : k_Scene_isWhite E d S q (nI x) Q := by
  have := hl.b10
  refine w_Scene_isWhite hq ⟨by omega, ?_⟩
  rw [show S (q + 1) (30 + x) = A 6 x from hA.1 6 x (by decide) hx]
  refine ife (fun e => ?_) (fun e => ?_)
  · rw [zb_t e] at h
    exact h
  · rw [zb_f e] at h
    exact h
theorem grd_bit {x : Nat} (hx : x < lb l) : (grdM l A).testBit x = decide (A 9 x = 1) := by
  unfold grdM
  rw [mkN_bit]
  simp [hx]
theorem c_isGuarded {x : Nat} {Q : Int32 → St → Prop} (hl : LOk l) (hq : Sc q) (hA : ScC l (S (q + 1)) A) (hx : x < lb l) (h : Q (zb (A 9 x = 1)) S) : k_Scene_isGuarded E d S q (nI x) Q := by
  have := hl.b10
  refine w_Scene_isGuarded hq ?_
  rw [hA.2]
  refine ife (fun e => ?_) (fun e => ?_)
  · rw [nI_tst (by omega), grd_bit hx] at e
    rw [zb_f (of_decide_eq_false e)] at h
    exact h
  · rw [nI_tst (by omega), grd_bit hx] at e
    rw [zb_t (by simpa using e)] at h
    exact h
theorem c_isLoose {x : Nat} {Q : Int32 → St → Prop} (hd : 1 ≤ d) (hl : LOk l) (hq : Sc q) (hA : ScC l (S (q + 1)) A) (hx : x < lb l) (h : Q (zb (¬ A 6 x = 0 ∧ ¬ A 9 x = 1)) S) : k_Scene_isLoose E d S q (nI x) Q := by
  refine w_Scene_isLoose hd hq (c_isWhite hl hq hA hx (izb (fun e => ?_) (fun e => ?_)))
  · rw [zb_f (fun e2 => e2.1 e)] at h
    exact h
  · refine c_isGuarded hl hq hA hx (izb (fun e1 => ?_) (fun e1 => ?_))
    · rw [zb_f (fun e2 => e2.2 e1)] at h
      exact h
    · rw [zb_t ⟨e, e1⟩] at h
      exact h
/-! setters: the row alone changes -/
theorem ScC_set {k i : Nat} {v : Int32} (hl : LOk l) (hA : ScC l (S (q + 1)) A) (hk : k < 9) (hi : i < rng l k) : ScC l (up S (q + 1) (offC k + i) v (q + 1)) (ua A k i v) := by
  rw [up_same]
  exact ScC_up hl hA hk hi v
theorem c_setTemper {p : Nat} {t : Int32} {Q : St → Prop} (hd : 1 ≤ d) (hl : LOk l) (hq : Sc q) (hA : ScC l (S (q + 1)) A) (hp : p < lp l) (h : ∀ S', Fr [q + 1] S S' → ScC l (S' (q + 1)) (ua A 1 p (m99 t)) → Q S') : k_Scene_setTemper E d S q (nI p) t Q := by
  have := hl.p7
  refine w_Scene_setTemper hd hq ⟨by omega, fun S1 e1 => ?_⟩
  subst e1
  exact h _ (Fr.up _ _ List.mem_cons_self) (ScC_set (k := 1) hl hA (by decide) hp)
theorem c_setMild {p : Nat} {t : Int32} {Q : St → Prop} (hl : LOk l) (hq : Sc q) (hA : ScC l (S (q + 1)) A) (hp : p < lp l) (h : ∀ S', Fr [q + 1] S S' → ScC l (S' (q + 1)) (ua A 4 p t) → Q S') : k_Scene_setMild E d S q (nI p) t Q := by
  have := hl.p7
  refine w_Scene_setMild hq ⟨by omega, fun S1 e1 => ?_⟩
  subst e1
  exact h _ (Fr.up _ _ List.mem_cons_self) (ScC_set (k := 4) hl hA (by decide) hp)
theorem c_setCell {x : Nat} {t : Int32} {Q : St → Prop} (hl : LOk l) (hq : Sc q) (hA : ScC l (S (q + 1)) A) (hx : x < lb l) (h : ∀ S', Fr [q + 1] S S' → ScC l (S' (q + 1)) (ua A 5 x t) → Q S') : k_Scene_setCell E d S q (nI x) t Q := by
  have := hl.b10
  refine w_Scene_setCell hq ⟨by omega, fun S1 e1 => ?_⟩
  subst e1
  exact h _ (Fr.up _ _ List.mem_cons_self) (ScC_set (k := 5) hl hA (by decide) hx)
theorem c_growOld {x : Nat} {Q : St → Prop} (hl : LOk l) (hq : Sc q) (hA : ScC l (S (q + 1)) A) (hx : x < lb l) (h : ∀ S', Fr [q + 1] S S' → ScC l (S' (q + 1)) (ua A 7 x (A 7 x + 1)) → Q S') : k_Scene_growOld E d S q (nI x) Q := by
  have := hl.b10
  refine w_Scene_growOld hq ⟨by omega, by omega, fun S1 e1 => ?_⟩
  subst e1
  rw [show S (q + 1) (40 + x) = A 7 x from hA.1 7 x (by decide) hx]
  exact h _ (Fr.up _ _ List.mem_cons_self) (ScC_set (k := 7) hl hA (by decide) hx)
theorem c_nextDay {Q : St → Prop} (hl : LOk l) (hq : Sc q) (hA : ScC l (S (q + 1)) A) (h : ∀ S', Fr [q + 1] S S' → ScC l (S' (q + 1)) (ua A 0 0 (A 0 0 + 1)) → Q S') : k_Scene_nextDay E d S q Q := by
  refine w_Scene_nextDay hq (fun S1 e1 => ?_)
  subst e1
  have h0 : 0 < rng l 0 := Nat.one_pos
  rw [show S (q + 1) 0 = A 0 0 from hA.1 0 0 (by decide) h0]
  exact h _ (Fr.up _ _ List.mem_cons_self) (ScC_set (k := 0) (i := 0) hl hA (by decide) h0)
theorem c_fill {x : Nat} {t o : Int32} {Q : St → Prop} (hl : LOk l) (hq : Sc q) (hA : ScC l (S (q + 1)) A) (hx : x < lb l) (h : ∀ S', Fr [q + 1] S S' → ScC l (S' (q + 1)) (fill A x t o) → Q S') : k_Scene_fill E d S q (nI x) t o Q := by
  have := hl.b10
  refine w_Scene_fill hq ⟨by omega, fun S1 e1 => ⟨by omega, fun S2 e2 => ⟨by omega, fun S3 e3 => ?_⟩⟩⟩
  subst e1 e2 e3
  have h1 := ScC_set (k := 6) (i := x) (v := t) hl hA (by decide) hx
  have h2 := ScC_set (k := 7) (i := x) (v := 0) hl h1 (by decide) hx
  have h3 := ScC_set (k := 8) (i := x) (v := o) hl h2 (by decide) hx
  exact h _ (((Fr.up _ _ List.mem_cons_self).trans (Fr.up _ _ List.mem_cons_self)).trans (Fr.up _ _ List.mem_cons_self)) h3
theorem c_shout {p : Nat} {Q : St → Prop} (hl : LOk l) (hq : Sc q) (hA : ScC l (S (q + 1)) A) (hp : p < lp l) (h : ∀ S', Fr [q + 1] S S' → ScC l (S' (q + 1)) (ua (ua A 2 p (A 2 p + 1)) 1 p (A 1 p / 2)) → Q S') : k_Scene_shout E d S q (nI p) Q := by
  have := hl.p7
  refine w_Scene_shout hq ⟨by omega, by omega, fun S1 e1 => ⟨by omega, by omega, fun S2 e2 => ?_⟩⟩
  subst e1
  have h1 := ScC_set (k := 2) (i := p) (v := A 2 p + 1) hl hA (by decide) hp
  have e9 : S (q + 1) (16 + p) = A 2 p := hA.1 2 p (by decide) hp
  rw [e9] at e2
  have e8 : up S (q + 1) (16 + p) (A 2 p + 1) (q + 1) (9 + p) = A 1 p := by
    have := h1.1 1 p (by decide) hp
    rw [ua_ne _ _ _ (by decide)] at this
    exact this
  rw [e8] at e2
  subst e2
  exact h _ ((Fr.up _ _ List.mem_cons_self).trans (Fr.up _ _ List.mem_cons_self)) (ScC_set (k := 1) (i := p) hl h1 (by decide) hp)
theorem c_hear {p : Nat} {n : Int32} {Q : St → Prop} (hd : 2 ≤ d) (hl : LOk l) (hq : Sc q) (hA : ScC l (S (q + 1)) A) (hp : p < lp l) (h : ∀ S', Fr [q + 1] S S' → ScC l (S' (q + 1)) (hear A p n) → Q S') : k_Scene_hear E d S q (nI p) n Q := by
  have := hl.p7
  refine w_Scene_hear (by omega) hq ⟨by omega, by omega, fun S1 e1 => ?_⟩
  rw [show S (q + 1) (23 + p) = A 3 p from hA.1 3 p (by decide) hp] at e1
  have h1 := ScC_set (k := 3) (i := p) (v := m9999 (A 3 p + n)) hl hA (by decide) hp
  have f1 : Fr [q + 1] S S1 := by
    rw [e1]
    exact Fr.up _ _ List.mem_cons_self
  have h1 : ScC l (S1 (q + 1)) (ua A 3 p (m9999 (A 3 p + n))) := by
    rw [e1]
    exact h1
  refine c_temperOf hl hq h1 hp ?_
  rw [ua_ne _ _ _ (by decide)]
  refine c_setTemper (by omega) hl hq h1 hp (fun S' f2 h2 => ?_)
  exact h S' (f1.trans f2) h2
end CL
