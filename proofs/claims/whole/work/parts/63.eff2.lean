/-! CALLS THAT ACT: tread, carry, guard, soothe, undo, see, forget -/
section EG
variable {G : Gst} {S : St} {E : zX} {d : Nat} {Q : Int32 → St → Prop} {X : Nat → St → Prop}
/-- a row that an act changes: class -/
theorem CE_act {S8 S' : St} {A : Scn} {ks : List Nat} (hR : RelC G S) (f8 : Fr [24, 27] S S8) (b8 : BkC (gl G) S8 24 (keepB (gb G))) (f : Fr ks S8 S') (hk : ∀ k, k ∈ ks → k = 26 ∨ (38 ≤ k ∧ k < 65)) (hA : ScC (gl G) (S' 26) A) : CE (wB G (sA (keepB (gb G)) A)) S S' := by
  refine ⟨RelC_b hR (fun k hq => ?_) (BkC_row b8 hA (fun k h1 h2 h3 => f k (fun hm => by have := hk k hm; omega))), fun k hq => ?_⟩
  · rw [f k (fun hm => by have := hk k hm; omega), f8 k (by simp only [List.mem_cons, List.not_mem_nil, or_false]; omega)]
  · rw [f k (fun hm => by have := hk k hm; omega), f8 k (by simp only [List.mem_cons, List.not_mem_nil, or_false]; omega)]
/-- in the reference -/
theorem ME_act {S8 S' : St} {A : Scn} (hR : RelM G S) (f8 : Fr [65, 78] S S8) (r8 : ∀ i, i ≠ 42 → S8 65 i = S 65 i) (b8 : BkM (gl G) (S8 77) (S8 78) (S8 85) (S8 65 42) (S8 65 53) (keepB (gb G))) (f : ∀ k, k ∉ [65, 77, 79, 80] → S' k = S8 k) (r : ∀ i, i ∉ [45, 46, 47, 48] → S' 65 i = S8 65 i) (hA : ScM (gl G) (S' 77) 0 A) : ME (wB G (sA (keepB (gb G)) A)) S S' := by
  refine ME_b hR (fun k hk => ?_) (fun i hi => ?_) (BkM_row b8 hA (f 78 (by decide)) (f 85 (by decide)) (r 42 (by decide)) (r 53 (by decide)))
  · rw [f k (fun hm => hk (by simp only [List.mem_cons, List.not_mem_nil, or_false] at hm ⊢; omega)), f8 k (fun hm => hk (by simp only [List.mem_cons, List.not_mem_nil, or_false] at hm ⊢; omega))]
  · rw [r i (fun hm => hi (by simp only [List.mem_cons, List.not_mem_nil, or_false] at hm ⊢; omega)), r8 i (fun hm => hi (by rw [hm]; decide))]
theorem LC_k {S8 : St} (hR : RelC G S) (f8 : Fr [24, 27] S S8) : LC (gl G) S8 := LC_fr hR.lc (fun k _ _ => f8 k (by simp only [List.mem_cons, List.not_mem_nil, or_false]; omega))
theorem LM_k {S8 : St} (hR : RelM G S) (f8 : Fr [65, 78] S S8) (r8 : ∀ i, i ≠ 42 → S8 65 i = S 65 i) : LM (gl G) S8 := LM_of hR.lm (fun i h1 h2 => r8 i (by omega)) (f8 66 (by decide)) (f8 67 (by decide)) (f8 68 (by decide))
theorem x_tread {a : Int32} (hd : 20 ≤ d) (hG : GInv G) (hR : RelC G S) (hn : (S 1000 0).toNatClampNeg < 1000000) (h : cd3 (ng (lb (gl G)) a) false false = 0 → ∀ S', CE (eTread G a).2 S S' → Q (eTread G a).1 S') (hX : ∀ k, cd3 (ng (lb (gl G)) a) false false = k + 1 → X k (upT S)) : k_x_tread E d S a Q X := by
  have b10 := hG.1.b10
  refine w_x_tread (by omega) (n_ball (by omega) hR.lc hn (fun x hx ea => ?_) (fun e => hX 0 (by unfold cd3; rw [e]; rfl)))
  subst ea
  have h := h (by unfold cd3; rw [ng_f (by omega) hx]; rfl)
  unfold eTread at h
  rw [tN_nI (by omega)] at h
  refine c_isLoose (by omega) hG.1 sc25 hR.sc hx (izb (fun e => ?_) (fun e => ?_))
  · rw [if_pos e] at h
    refine c_keepAct (by omega) hG.1 hR.bk hG.a40 (fun S8 f8 b8 => ?_)
    have L8 := LC_k hR f8
    have hs : sub (2 ^ x) (heldM (gl G) (gA G)) := sub_p2 hx e.1
    rw [show (1 : Int32) <<< (nI x &&& 31) = nI (2 ^ x) from bt_eq x (by omega)]
    have eb : bst (gl G) (gA G) (2 ^ x) = (goOff (gl G) (gA G) (2 ^ x), clo (gl G) (gA G) (freM (gl G) (gA G)) (2 ^ x)) := if_neg (Nat.pos_iff_ne_zero.mp (Nat.pow_pos (by decide)))
    have A8 : ScC (gl G) (S8 26) (gA G) := b8.1
    refine c_burst (A := gA G) (by omega) L8 sc25 A8 hG.cok hs (fun S10 f10 A10 => ?_)
    rw [eb] at A10 ⊢
    refine c_bitCount (mkN_lt10 b10) (h S10 (CE_act hR f8 b8 f10 (fun k hk => by simp only [List.mem_cons, List.not_mem_nil, or_false] at hk; omega) A10))
  · rw [if_neg e] at h
    exact x_refuse (k := 1) hR rfl (by decide) h
theorem e_mayTread {l : Lnd} {A : Scn} {o x : Nat} (hd : 1 ≤ d) (hl : LOk l) (ho : o ≤ 79) (hA : ScM l (S 77) o A) (hGo : GOk l A) (hx : x < lb l) (h : Q (zb (¬ A 6 x = 0 ∧ ¬ A 9 x = 1)) S) : k_m_mayTread E d S (nI o) (nI x) Q := by
  have b10 := hl.b10
  refine w_m_mayTread hd (e_isWhite hl ho hA hx (izb (fun e => ?_) (fun e => ⟨by omega, ?_⟩)))
  · rw [zb_f (fun hh => hh.1 e)] at h
    exact h
  · rw [show S 77 (o + 69 + x) = A 9 x from hA 9 x (by decide) hx]
    refine ife (fun e2 => ?_) (fun e2 => ?_)
    · rw [zb_t ⟨e, by rw [e2]; decide⟩] at h
      exact h
    · rcases hGo x hx with e3 | e3
      · exact absurd e3 e2
      · rw [zb_f (fun hh => hh.2 e3)] at h
        exact h
theorem m_tread {a : Int32} (hd : 20 ≤ d) (hG : GInv G) (hR : RelM G S) (h0 : cd3 (ng (lb (gl G)) a) false false = 0 → ∀ S', ME (eTread G a).2 S S' → S' 65 0 = 0 → Q (eTread G a).1 S') (h1 : ¬ cd3 (ng (lb (gl G)) a) false false = 0 → ∀ S' v, ME G S S' → S' 65 0 = nI (cd3 (ng (lb (gl G)) a) false false) → Q v S') : k_m_tread E d S a Q := by
  have b10 := hG.1.b10
  refine w_m_tread (by omega) (fun S1 e1 => ?_)
  have q1 : QM S S1 := by
    rw [e1]
    exact QM_up _ (by decide)
  have t1 : S1 65 0 = 0 := by rw [e1, up_same, upd_same]
  have R1 := RelM_qm hR q1
  refine e_isBall (by omega) R1.lm t1 (fun x hx ea => ?_) (fun e => ?_)
  · subst ea
    have h := h0 (by unfold cd3; rw [ng_f (by omega) hx]; rfl)
    unfold eTread at h
    rw [tN_nI (by omega)] at h
    rw [if_neg (by decide)]
    refine e_mayTread (o := 0) (by omega) hG.1 (by omega) R1.sc hG.gok hx (izb (fun e => ?_) (fun e => ?_))
    · rw [if_pos e] at h
      refine e_keeps hG.1 R1.bk hG.a40 (fun S8 f8 r8 b8 => ?_)
      rw [show (1 : Int32) <<< (nI x &&& 31) = nI (2 ^ x) from bt_eq x (by omega)]
      refine e_goOff (o := 0) (by omega) (LM_k R1 f8 r8) (by omega) b8.1 hG.cok hG.gok (Nat.pow_lt_pow_right (by decide) hx) (fun S10 F10 A10 _ _ _ _ => ?_)
      refine h S10 (ME.trans q1 (ME_act R1 f8 r8 b8 (fun k hk => F10.1 k hk) (fun i hi => F10.2.1 i hi) A10)) ?_
      rw [F10.2.1 0 (by decide), r8 0 (by decide), t1]
    · rw [if_neg e] at h
      exact m_refuse (k := 1) R1 rfl (by decide) (fun S' m' e65 => h S' (ME.trans q1 m') (by rw [e65]; exact t1))
  · rw [if_pos rfl]
    have hc : cd3 (ng (lb (gl G)) a) false false = 1 := by unfold cd3; rw [show ng (lb (gl G)) a = true from decide_eq_true e]; rfl
    exact h1 (by rw [hc]; decide) _ _ (ME_qm hR (q1.trans (QM_up _ (by decide)))) (by rw [up_same, upd_same, hc]; rfl)
/-! carry -/
def cCarry (G : Gst) (a c : Int32) : Nat := cd3 (ng (lb (gl G)) a) (ng (lw (gl G) * lh (gl G)) c) false
theorem x_carry {a c : Int32} (hd : 20 ≤ d) (hG : GInv G) (hR : RelC G S) (hn : (S 1000 0).toNatClampNeg < 1000000) (h : cCarry G a c = 0 → ∀ S', CE (eCarry G a c).2 S S' → Q (eCarry G a c).1 S') (hX : ∀ k, cCarry G a c = k + 1 → X k (upT S)) : k_x_carry E d S a c Q X := by
  have b10 := hG.1.b10
  have c36 := hG.1.c36
  refine w_x_carry (by omega) (n_ball (by omega) hR.lc hn (fun x hx ea => ?_) (fun e => hX 0 (by unfold cCarry cd3; rw [e]; rfl)))
  subst ea
  have e1 := ng_f (n := lb (gl G)) (x := x) (by omega) hx
  refine n_cell (by omega) hR.lc hn (fun y hy ec => ?_) (fun e => hX 0 (by unfold cCarry cd3; rw [e1, e]; rfl))
  subst ec
  have h := h (by unfold cCarry cd3; rw [e1, ng_f (by omega) hy]; rfl)
  unfold eCarry at h
  rw [tN_nI (by omega)] at h
  refine c_cellOf hG.1 sc25 hR.sc hx (ife (fun e => ?_) (fun e => ?_))
  · rw [if_pos e] at h
    exact x_refuse (k := 1) hR rfl (by decide) h
  · rw [if_neg e] at h
    refine c_keepAct (by omega) hG.1 hR.bk hG.a40 (fun S8 f8 b8 => ?_)
    exact c_setCell hG.1 sc25 b8.1 hx (fun S9 f9 A9 => h S9 (CE_act hR f8 b8 f9 (fun k hk => by simp only [List.mem_cons, List.not_mem_nil, or_false] at hk; omega) A9))
theorem m_carry {a c : Int32} (hd : 20 ≤ d) (hG : GInv G) (hR : RelM G S) (h0 : cCarry G a c = 0 → ∀ S', ME (eCarry G a c).2 S S' → S' 65 0 = 0 → Q (eCarry G a c).1 S') (h1 : ¬ cCarry G a c = 0 → ∀ S' v, ME G S S' → S' 65 0 = nI (cCarry G a c) → Q v S') : k_m_carry E d S a c Q := by
  have b10 := hG.1.b10
  have c36 := hG.1.c36
  refine w_m_carry (by omega) (fun S1 e1 => ?_)
  have q1 : QM S S1 := by
    rw [e1]
    exact QM_up _ (by decide)
  have t1 : S1 65 0 = 0 := by rw [e1, up_same, upd_same]
  have R1 := RelM_qm hR q1
  refine e_isBall (by omega) R1.lm t1 (fun x hx ea => ?_) (fun e => ?_)
  · subst ea
    have g1 := ng_f (n := lb (gl G)) (x := x) (by omega) hx
    rw [if_neg (by decide)]
    refine e_isCell (by omega) R1.lm t1 (fun y hy ec => ?_) (fun e => ?_)
    · subst ec
      have h := h0 (by unfold cCarry cd3; rw [g1, ng_f (by omega) hy]; rfl)
      unfold eCarry at h
      rw [tN_nI (by omega)] at h
      rw [if_neg (by decide)]
      have a5 : S1 77 (29 + x) = gA G 5 x := by
        have := R1.sc 5 x (by decide) hx
        rw [show 0 + offM 5 + x = 29 + x by show 0 + 29 + x = 29 + x; omega] at this
        exact this
      refine ⟨29 + x, nI_add _ _, by omega, ?_⟩
      rw [a5]
      refine ife (fun e => ?_) (fun e => ?_)
      · rw [if_pos e] at h
        exact m_refuse (k := 1) R1 rfl (by decide) (fun S' m' e65 => h S' (ME.trans q1 m') (by rw [e65]; exact t1))
      · rw [if_neg e] at h
        refine e_keeps hG.1 R1.bk hG.a40 (fun S8 f8 r8 b8 => ⟨29 + x, nI_add _ _, by omega, fun S9 e9 => ?_⟩)
        have A9 := ScM_set (o := 0) (k := 5) (i := x) (v := nI y) hG.1 b8.1 (by decide) hx
        rw [show 0 + offM 5 + x = 29 + x by show 0 + 29 + x = 29 + x; omega, ← e9] at A9
        refine h S9 (ME.trans q1 (ME_act R1 f8 r8 b8 (fun k hk => ?_) (fun i hi => ?_) A9)) ?_
        · rw [e9, up_ne _ _ _ (fun hh => hk (by rw [hh]; decide))]
        · rw [e9, up_ne _ _ _ (by decide)]
        · rw [e9, up_ne _ _ _ (by decide), r8 0 (by decide), t1]
    · rw [if_pos rfl]
      have hc : cCarry G (nI x) c = 1 := by unfold cCarry cd3; rw [g1, show ng (lw (gl G) * lh (gl G)) c = true from decide_eq_true e]; rfl
      exact h1 (by rw [hc]; decide) _ _ (ME_qm hR (q1.trans (QM_up _ (by decide)))) (by rw [up_same, upd_same, hc]; rfl)
  · rw [if_pos rfl]
    have hc : cCarry G a c = 1 := by unfold cCarry cd3; rw [show ng (lb (gl G)) a = true from decide_eq_true e]; rfl
    exact h1 (by rw [hc]; decide) _ _ (ME_qm hR (q1.trans (QM_up _ (by decide)))) (by rw [up_same, upd_same, hc]; rfl)
/-! guard -/
theorem grd_tog {l : Lnd} {A : Scn} {x : Nat} {v : Int32} (hx : x < lb l) (hv : v = 0 ∨ v = 1) (hne : ¬ zb (A 9 x = 1) = v) : grdM l (ua A 9 x v) = grdM l A ^^^ 2 ^ x := by
  refine bits_ext (fun i => ?_)
  rw [Nat.testBit_xor, Nat.testBit_two_pow]
  unfold grdM
  rw [mkN_bit, mkN_bit, ua_same]
  by_cases hi : i < lb l
  · by_cases e : i = x
    · subst e
      rw [upd_same]
      rcases hv with rfl | rfl
      · have : A 9 i = 1 := Classical.byContradiction (fun h => hne (zb_f h))
        simp [hi, this]
      · have : ¬ A 9 i = 1 := fun h => hne (zb_t h)
        simp [hi, this]
    · rw [upd_ne _ _ e]
      simp [hi, show ¬ x = i from fun h => e h.symm]
  · simp [hi]
    omega
theorem x_guard {a v : Int32} (hd : 20 ≤ d) (hG : GInv G) (hR : RelC G S) (hn : (S 1000 0).toNatClampNeg < 1000000) (hv : v = 0 ∨ v = 1) (h : cd3 (ng (lb (gl G)) a) false false = 0 → ∀ S', CE (eGuard G a v).2 S S' → Q (eGuard G a v).1 S') (hX : ∀ k, cd3 (ng (lb (gl G)) a) false false = k + 1 → X k (upT S)) : k_x_guard E d S a v Q X := by
  have b10 := hG.1.b10
  refine w_x_guard (by omega) (n_ball (by omega) hR.lc hn (fun x hx ea => ?_) (fun e => hX 0 (by unfold cd3; rw [e]; rfl)))
  subst ea
  have h := h (by unfold cd3; rw [ng_f (by omega) hx]; rfl)
  unfold eGuard at h
  rw [tN_nI (by omega)] at h
  refine c_isGuarded hG.1 sc25 hR.sc hx (ife (fun e => ?_) (fun e => ?_))
  · rw [if_pos e] at h
    exact x_refuse (k := 1) hR rfl (by decide) h
  · rw [if_neg e] at h
    refine c_keepAct (by omega) hG.1 hR.bk hG.a40 (fun S8 f8 b8 => ?_)
    have A8 : ScC (gl G) (S8 26) (gA G) := b8.1
    refine c_guards sc25 A8 (w_Scene_setGuards sc25 (fun S9 e9 => ?_))
    rw [show (1 : Int32) <<< (nI x &&& 31) = nI (2 ^ x) from bt_eq x (by omega), nI_xor, ← grd_tog hx hv e] at e9
    refine h S9 (CE_act (ks := [26]) hR f8 b8 ?_ (fun k hk => by simp only [List.mem_cons, List.not_mem_nil, or_false] at hk; omega) ?_)
    · rw [e9]
      exact Fr.up _ _ (by decide)
    · refine ⟨fun k i hk hi => ?_, ?_⟩
      · have g1 := rng_cap hG.1 k
        have g2 := cap_10 k
        rw [e9, up_same, upd_ne _ _ (offC_1 k hk i (by omega) (by omega)).1, ua_ne _ _ _ (by omega)]
        exact A8.1 k i hk hi
      · rw [e9, up_same, upd_same]
theorem m_guard {a v : Int32} (hd : 20 ≤ d) (hG : GInv G) (hR : RelM G S) (hv : v = 0 ∨ v = 1) (h0 : cd3 (ng (lb (gl G)) a) false false = 0 → ∀ S', ME (eGuard G a v).2 S S' → S' 65 0 = 0 → Q (eGuard G a v).1 S') (h1 : ¬ cd3 (ng (lb (gl G)) a) false false = 0 → ∀ S' w, ME G S S' → S' 65 0 = nI (cd3 (ng (lb (gl G)) a) false false) → Q w S') : k_m_guard E d S a v Q := by
  have b10 := hG.1.b10
  refine w_m_guard (by omega) (fun S1 e1 => ?_)
  have q1 : QM S S1 := by
    rw [e1]
    exact QM_up _ (by decide)
  have t1 : S1 65 0 = 0 := by rw [e1, up_same, upd_same]
  have R1 := RelM_qm hR q1
  refine e_isBall (by omega) R1.lm t1 (fun x hx ea => ?_) (fun e => ?_)
  · subst ea
    have h := h0 (by unfold cd3; rw [ng_f (by omega) hx]; rfl)
    unfold eGuard at h
    rw [tN_nI (by omega)] at h
    rw [if_neg (by decide)]
    have a9 : S1 77 (69 + x) = gA G 9 x := by
      have := R1.sc 9 x (by decide) hx
      rw [show 0 + offM 9 + x = 69 + x by show 0 + 69 + x = 69 + x; omega] at this
      exact this
    refine ⟨69 + x, nI_add _ _, by omega, ?_⟩
    rw [a9]
    have main : k_m_guard_33 E d S1 (nI x) v (zb (gA G 9 x = 1)) Q := by
      refine w_m_guard_33 (by omega) (ife (fun e => ?_) (fun e => ?_))
      · rw [if_pos e] at h
        refine m_refuse (k := 1) R1 rfl (by decide) (fun S' m' e65 => ?_)
        rw [if_pos (by decide)]
        exact h S' (ME.trans q1 m') (by rw [e65]; exact t1)
      · rw [if_neg e] at h
        refine e_keeps hG.1 R1.bk hG.a40 (fun S8 f8 r8 b8 => ?_)
        have fin : ∀ S9, S9 = up S8 77 (69 + x) v → Q 1 S9 := by
          intro S9 e9
          have A9 := ScM_set (o := 0) (k := 9) (i := x) (v := v) hG.1 b8.1 (by decide) hx
          rw [show 0 + offM 9 + x = 69 + x by show 0 + 69 + x = 69 + x; omega, ← e9] at A9
          refine h S9 (ME.trans q1 (ME_act R1 f8 r8 b8 (fun k hk => ?_) (fun i hi => ?_) A9)) ?_
          · rw [e9, up_ne _ _ _ (fun hh => hk (by rw [hh]; decide))]
          · rw [e9, up_ne _ _ _ (by decide)]
          · rw [e9, up_ne _ _ _ (by decide), r8 0 (by decide), t1]
        rcases hv with rfl | rfl
        · rw [if_pos rfl]
          exact ⟨69 + x, nI_add _ _, by omega, fin⟩
        · rw [if_neg (by decide)]
          exact ⟨69 + x, nI_add _ _, by omega, fin⟩
    refine ife (fun e => ?_) (fun e => ?_)
    · rw [zb_t e] at main
      exact main
    · rw [zb_f e] at main
      exact main
  · rw [if_pos rfl]
    have hc : cd3 (ng (lb (gl G)) a) false false = 1 := by unfold cd3; rw [show ng (lb (gl G)) a = true from decide_eq_true e]; rfl
    exact h1 (by rw [hc]; decide) _ _ (ME_qm hR (q1.trans (QM_up _ (by decide)))) (by rw [up_same, upd_same, hc]; rfl)
/-! soothe -/
theorem x_soothe {a t : Int32} (hd : 20 ≤ d) (hG : GInv G) (hR : RelC G S) (hn : (S 1000 0).toNatClampNeg < 1000000) (h : cd3 (ng (lp (gl G)) a) false false = 0 → ∀ S', CE (eSoothe G a t).2 S S' → Q (eSoothe G a t).1 S') (hX : ∀ k, cd3 (ng (lp (gl G)) a) false false = k + 1 → X k (upT S)) : k_x_soothe E d S a t Q X := by
  have p7 := hG.1.p7
  refine w_x_soothe (by omega) (n_person (by omega) hR.lc hn (fun x hx ea => ?_) (fun e => hX 0 (by unfold cd3; rw [e]; rfl)))
  subst ea
  have h := h (by unfold cd3; rw [ng_f (by omega) hx]; rfl)
  unfold eSoothe at h
  rw [tN_nI (by omega)] at h
  refine ife (fun e => ?_) (fun e => ife (fun e2 => ?_) (fun e2 => ?_))
  · rw [if_pos (Or.inl e)] at h
    exact x_refuse (k := 1) hR rfl (by decide) h
  · rw [if_neg (fun hh => hh.elim e (Int32.not_lt.mpr e2))] at h
    refine c_keepAct (by omega) hG.1 hR.bk hG.a40 (fun S8 f8 b8 => ?_)
    refine c_temperOf hG.1 sc25 b8.1 hx (c_setTemper (by omega) hG.1 sc25 b8.1 hx (fun S9 f9 A9 => h S9 (CE_act hR f8 b8 f9 (fun k hk => by simp only [List.mem_cons, List.not_mem_nil, or_false] at hk; omega) ?_)))
    rw [show m99 t = t from if_neg (Int32.not_lt.mpr e2)] at A9
    exact A9
  · rw [if_pos (Or.inr (Int32.not_le.mp e2))] at h
    exact x_refuse (k := 1) hR rfl (by decide) h
theorem m_soothe {a t : Int32} (hd : 20 ≤ d) (hG : GInv G) (hR : RelM G S) (h0 : cd3 (ng (lp (gl G)) a) false false = 0 → ∀ S', ME (eSoothe G a t).2 S S' → S' 65 0 = 0 → Q (eSoothe G a t).1 S') (h1 : ¬ cd3 (ng (lp (gl G)) a) false false = 0 → ∀ S' w, ME G S S' → S' 65 0 = nI (cd3 (ng (lp (gl G)) a) false false) → Q w S') : k_m_soothe E d S a t Q := by
  have p7 := hG.1.p7
  refine w_m_soothe (by omega) (fun S1 e1 => ?_)
  have q1 : QM S S1 := by
    rw [e1]
    exact QM_up _ (by decide)
  have t1 : S1 65 0 = 0 := by rw [e1, up_same, upd_same]
  have R1 := RelM_qm hR q1
  refine e_isPerson (by omega) R1.lm t1 (fun x hx ea => ?_) (fun e => ?_)
  · subst ea
    have h := h0 (by unfold cd3; rw [ng_f (by omega) hx]; rfl)
    unfold eSoothe at h
    rw [tN_nI (by omega)] at h
    rw [if_neg (by decide)]
    have a1 : S1 77 (1 + x) = gA G 1 x := by
      have := R1.sc 1 x (by decide) hx
      rw [show 0 + offM 1 + x = 1 + x by show 0 + 1 + x = 1 + x; omega] at this
      exact this
    refine ⟨1 + x, nI_add _ _, by omega, e_within (fun g1 g2 => ?_) (fun g => ?_)⟩
    · rw [if_neg (by decide)]
      rw [if_neg (fun hh => hh.elim g1 g2)] at h
      refine e_keeps hG.1 R1.bk hG.a40 (fun S8 f8 r8 b8 => ⟨1 + x, nI_add _ _, by omega, fun S9 e9 => ?_⟩)
      have A9 := ScM_set (o := 0) (k := 1) (i := x) (v := t) hG.1 b8.1 (by decide) hx
      rw [show 0 + offM 1 + x = 1 + x by show 0 + 1 + x = 1 + x; omega, ← e9] at A9
      rw [a1]
      refine h S9 (ME.trans q1 (ME_act R1 f8 r8 b8 (fun k hk => ?_) (fun i hi => ?_) A9)) ?_
      · rw [e9, up_ne _ _ _ (fun hh => hk (by rw [hh]; decide))]
      · rw [e9, up_ne _ _ _ (by decide)]
      · rw [e9, up_ne _ _ _ (by decide), r8 0 (by decide), t1]
    · rw [if_pos rfl]
      rw [if_pos g] at h
      exact m_refuse (k := 1) R1 rfl (by decide) (fun S' m' e65 => h S' (ME.trans q1 m') (by rw [e65]; exact t1))
  · rw [if_pos rfl]
    have hc : cd3 (ng (lp (gl G)) a) false false = 1 := by unfold cd3; rw [show ng (lp (gl G)) a = true from decide_eq_true e]; rfl
    exact h1 (by rw [hc]; decide) _ _ (ME_qm hR (q1.trans (QM_up _ (by decide)))) (by rw [up_same, upd_same, hc]; rfl)
/-! undo, forget -/
theorem x_undo (hd : 20 ≤ d) (hG : GInv G) (hR : RelC G S) (h : ∀ S', CE (eUndo G).2 S S' → Q (eUndo G).1 S') : k_x_undo E d S Q := by
  have a40 := hG.a40
  unfold eUndo at h
  refine w_x_undo (by omega) ?_
  rw [hR.bk.2.1]
  refine ife (fun e => ?_) (fun e => ?_)
  · rw [nI_is0 (by omega)] at e
    rw [if_pos e] at h
    exact h S (CE_qc hR (QC.refl S))
  · rw [nI_is0 (by omega)] at e
    rw [if_neg e] at h
    refine c_takeBack (by omega) hG.1 hR.bk a40 (by omega) (fun S2 f2 b2 => ?_)
    rw [show S2 24 1 = nI ((gb G).2.1.1 - 1) from b2.2.1]
    exact h S2 (CE_b hR f2 (fun k hk => by simp only [List.mem_cons, List.not_mem_nil, or_false] at hk; omega) b2)
theorem m_undo (hG : GInv G) (hR : RelM G S) (h : ∀ S', ME (eUndo G).2 S S' → Q (eUndo G).1 S') : k_m_undo E d S Q := by
  have a40 := hG.a40
  unfold eUndo at h
  refine w_m_undo (fun S1 e1 => ?_)
  have q1 : QM S S1 := by
    rw [e1]
    exact QM_up _ (by decide)
  have R1 := RelM_qm hR q1
  obtain ⟨b1, b2, b3, b4, b5⟩ := R1.bk
  rw [b2]
  refine ife (fun e => ?_) (fun e => ?_)
  · rw [nI_is0 (by omega)] at e
    rw [if_pos e] at h
    exact h S1 (ME_qm hR q1)
  · rw [nI_is0 (by omega)] at e
    rw [if_neg e] at h
    intro S2 e2
    have e42 : S2 65 42 = nI ((gb G).2.1.1 - 1) := by
      rw [e2, up_same, upd_same]
      exact pk_sub (a := (gb G).2.1.1) (b := 1) (by omega)
    refine dn (P := fun k => ∀ S', Fr [65, 77] S1 S' → (∀ i, i ≠ 42 → S' 65 i = S1 65 i) → S' 65 42 = nI ((gb G).2.1.1 - 1) → (∀ i, i < k → S' 77 i = S1 78 (79 * ((gb G).2.1.1 - 1) + i)) → k_m_undo_26 E d S' k Q) 79 ?_ ?_ 0 (Nat.zero_le _) S2 ?_ ?_ e42 (fun i hi => absurd hi (Nat.not_lt_zero i))
    · intro S3 f3 r3 x42 lo
      refine w_m_undo_26 (ilp 79 rfl (by omega) (by omega) (fun _ => ?_) (fun h => absurd h (Nat.lt_irrefl _)))
      rw [x42]
      refine h S3 (ME.trans q1 (ME_b R1 (fun k hk => f3 k (fun hm => hk ?_)) (fun i hi => r3 i (fun hm => hi (by rw [hm]; decide))) ⟨?_, x42, fun j hj => ?_, ?_, fun j hj => ?_⟩))
      · simp only [List.mem_cons, List.not_mem_nil, or_false] at hm ⊢
        omega
      · show ScM (gl G) (S3 77) 0 ((gb G).2.1.2 ((gb G).2.1.1 - 1))
        refine ScM_cp hG.1 (b3 ((gb G).2.1.1 - 1) (by omega)) (fun i hi => ?_)
        rw [Nat.zero_add, lo i hi]
      · have hj : j < (gb G).2.1.1 - 1 := hj
        show ScM (gl G) (S3 78) (79 * j) ((gb G).2.1.2 j)
        rw [f3 78 (by decide)]
        exact b3 j (by omega)
      · show S3 65 53 = nI (gb G).2.2.1
        rw [r3 53 (by decide), b4]
      · show S3 85 (3 * j) = _ ∧ S3 85 (3 * j + 1) = _ ∧ S3 85 (3 * j + 2) = _
        rw [f3 85 (by decide)]
        exact b5 j hj
    · intro k hk ih S3 f3 r3 x42 lo
      refine w_m_undo_26 (ilp 79 rfl (by omega) (by omega) (fun h => by omega) (fun _ => ⟨79 * ((gb G).2.1.1 - 1) + k, ?_, by omega, by omega, fun S4 e4 => ?_⟩))
      · rw [x42, show (79 : Int32) * nI ((gb G).2.1.1 - 1) = nI (79 * ((gb G).2.1.1 - 1)) from pk_mul 79 _, nI_add]
      · refine ih S4 ?_ (fun i hi => ?_) ?_ (fun i hi => ?_)
        · rw [e4]
          exact f3.trans (Fr.up _ _ (by decide))
        · rw [e4, up_ne _ _ _ (by decide), r3 i hi]
        · rw [e4, up_ne _ _ _ (by decide), x42]
        · rw [e4, up_same]
          by_cases e : i = k
          · rw [e, upd_same, f3 78 (by decide)]
          · rw [upd_ne _ _ e, lo i (by omega)]
    · rw [e2]
      exact Fr.up _ _ (by decide)
    · intro i hi
      rw [e2, up_same, upd_ne _ _ hi]
theorem x_forget {Q : St → Prop} (hR : RelC G S) (h : ∀ S', CE (eForget G) S S' → Q S') : k_x_forget E d S Q := by
  refine w_x_forget (fun S1 e1 => h S1 (CE_b (ks := [24]) hR ?_ (fun k hk => by simp only [List.mem_cons, List.not_mem_nil, or_false] at hk; omega) ?_))
  · rw [e1]
    exact Fr.up _ _ (by decide)
  · obtain ⟨b1, b2, b3, b4, b5⟩ := hR.bk
    have e : ∀ j, j ≠ 24 → S1 j = S j := fun j hj => by rw [e1, up_ne _ _ _ hj]
    refine ⟨?_, ?_, fun j hj => ?_, ?_, fun j hj => absurd hj (Nat.not_lt_zero j)⟩
    · rw [e 26 (by decide)]
      exact b1
    · rw [e1, up_same, upd_ne _ _ (by decide)]
      exact b2
    · rw [e 27 (by decide)]
      exact b3 j hj
    · rw [e1, up_same, upd_same]
      rfl
theorem m_forget {Q : St → Prop} (hR : RelM G S) (h : ∀ S', ME (eForget G) S S' → Q S') : k_m_forget E d S Q := by
  refine w_m_forget (fun S1 e1 S2 e2 => h S2 (ME_b hR (fun k hk => ?_) (fun i hi => ?_) ?_))
  · have : k ≠ 65 := fun hh => hk (by rw [hh]; decide)
    rw [e2, e1, up_ne _ _ _ this, up_ne _ _ _ this]
  · have i1 : i ≠ 53 := fun hh => hi (by rw [hh]; decide)
    have i2 : i ≠ 0 := fun hh => hi (by rw [hh]; decide)
    rw [e2, e1, up_same, upd_ne _ _ i1, up_same, upd_ne _ _ i2]
  · obtain ⟨b1, b2, b3, b4, b5⟩ := hR.bk
    have e : ∀ j, j ≠ 65 → S2 j = S j := fun j hj => by rw [e2, e1, up_ne _ _ _ hj, up_ne _ _ _ hj]
    rw [e 77 (by decide), e 78 (by decide), e 85 (by decide)]
    refine ⟨b1, ?_, b3, ?_, fun j hj => absurd hj (Nat.not_lt_zero j)⟩
    · rw [e2, e1, up_same, upd_ne _ _ (by decide), up_same, upd_ne _ _ (by decide)]
      exact b2
    · rw [e2, up_same, upd_same]
      rfl
end EG
