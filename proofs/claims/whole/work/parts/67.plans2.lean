/-! PLANS: to guard -/
theorem sdf_sub (a b : Nat) : sub (sdf a b) a := fun i hi => by
  rw [sdf_bit, Bool.and_eq_true] at hi
  exact hi.1
theorem sdf_is0 {k D : Nat} (hk : k < 1024) : nI (sdf k D) = 0 ↔ sub k D := by
  have : sdf k D < 2 ^ 10 := sub_lt (sdf_sub k D) hk
  rw [nI_is0 (by omega), sdf_0]
section PM
variable {l : Lnd} {A : Scn} {G : Gst} {S : St} {E : zX} {d : Nat} {Q : Int32 → St → Prop} {X : Nat → St → Prop}
theorem tg_some0 {a b : Nat} (e : (clo l A (freM l A) (2 ^ a)).testBit b = false) : srch (tgW l A (tgA l a b) a b) (2 ^ lb l) = some 0 := by
  have w0 : tgW l A (tgA l a b) a b 0 = true := tgW_t.mpr ⟨(fun i hi => by rw [Nat.zero_testBit] at hi; cases hi), by rw [sdf_0r]; exact e⟩
  have ok := srch_ok (tgW l A (tgA l a b) a b) (2 ^ lb l)
  cases es : srch (tgW l A (tgA l a b) a b) (2 ^ lb l) with
  | none =>
    rw [es] at ok
    rw [ok 0 (Nat.pow_pos (by decide))] at w0
    cases w0
  | some c =>
    rw [es] at ok
    by_cases c0 : c = 0
    · rw [c0]
    · have := ok.2.2.2 0 (by omega) w0
      have z0 : cnt 0 10 = 0 := by decide
      omega
theorem c_guardsBetween {a b : Nat} (hd : 5 ≤ d) (hL : LC l S) (hA : ScC l (S 26) A) (hO : COk l A) (ha : a < lb l) (hb : b < lb l) (h : ∀ S', Fr [40] S S' → Q (tgV l A a b) S') : k_Plans_guardsBetween E d S (nI a) (nI b) Q := by
  have b10 := hL.ok.b10
  refine w_Plans_guardsBetween (by omega) (c_setOffBy (q := 25) (by omega) hL sc25 hA hO ha (fun S2 f2 k2 => ?_))
  have L2 : LC l S2 := LC_dl sc25 hL (fr_40 f2)
  have A2 : ScC l (S2 (25 + 1)) A := by
    rw [f2 26 (by decide)]
    exact hA
  have h := h S2 f2
  unfold tgV at h
  have tst : (nI (sobM l A a) &&& bt b = 0) ↔ (sobM l A a).testBit b = false := nI_tst (by omega)
  refine ife (fun e => ?_) (fun e => ?_)
  · rw [tst] at e
    by_cases hw : A 6 a = 0
    · rw [if_pos hw] at h
      exact h
    · rw [if_neg hw] at h
      unfold sobM at e
      rw [if_neg hw] at e
      rw [tg_some0 e] at h
      exact h
  · rw [tst] at e
    have hw : ¬ A 6 a = 0 := fun hw => e (by unfold sobM; rw [if_pos hw, Nat.zero_testBit])
    rw [if_neg hw, tg_same hL.ok ha] at h
    have hs : sobM l A a = clo l A (freM l A) (2 ^ a) := by
      unfold sobM
      rw [if_neg hw]
    rw [hs] at e ⊢
    have k2 := k2 hw
    have go : ∀ k, k ≤ 1024 → k_Plans_guardsBetween_47 E d S2 a (bt b) (nI (tgD l A a b)) (oI (srch (tgW l A (tgD l A a b) a b) k)) k Q := by
      refine dn 1024 ?_ (fun k hk ih => ?_)
      · refine w_Plans_guardsBetween_47 (by omega) ?_
        rw [if_pos (nI_le (Nat.le_refl 1024) (by omega))]
        exact h
      · refine w_Plans_guardsBetween_47 (by omega) ?_
        rw [if_neg (nI_ge hk (by omega)), nI_sdf]
        have go84 : (∀ c, srch (tgW l A (tgD l A a b) a b) k = some c → cnt k 10 < cnt c 10) → sub k (tgD l A a b) → k_Plans_guardsBetween_84 E d S2 a (bt b) (nI (tgD l A a b)) (oI (srch (tgW l A (tgD l A a b) a b) k)) k Q := by
          intro hc hk2
          refine w_Plans_guardsBetween_84 (by omega) (c_guards sc25 A2 ?_)
          rw [bt_eq a (by omega), nI_or]
          refine c_chainG L2 k2 _ (sub_p2 ha hw) ?_
          rw [sdf_or]
          refine ife (fun e2 => ?_) (fun e2 => ?_)
          · rw [nI_tst (by omega)] at e2
            have w1 : tgW l A (tgD l A a b) a b k = true := tgW_t.mpr ⟨hk2, e2⟩
            cases es : srch (tgW l A (tgD l A a b) a b) k with
            | none =>
              rw [srch_n w1 es] at ih
              exact ih
            | some c =>
              rw [srch_s w1 es, if_pos (hc c es)] at ih
              exact ih
          · rw [nI_tst (by omega)] at e2
            rw [srch_0 (tgW_f (fun hh => e2 hh.2))] at ih
            exact ih
        refine ife (fun e1 => ?_) (fun e1 => ?_)
        · rw [sdf_is0 hk] at e1
          cases es : srch (tgW l A (tgD l A a b) a b) k with
          | none =>
            rw [es] at go84
            rw [if_pos (show oI none = -1 from rfl)]
            exact go84 (fun c hc => by cases hc) e1
          | some c =>
            have lc := srch_lt es
            rw [es] at go84
            rw [if_neg (show ¬ oI (some c) = -1 from oI_ne (by omega))]
            refine c_bitCount hk (c_bitCount (n := c) (by omega) ?_)
            have := cnt_le k 10
            have := cnt_le c 10
            refine ife (fun e3 => ?_) (fun e3 => ?_)
            · have nl : ¬ cnt k 10 < cnt c 10 := fun hh => nI_ge hh (by omega) e3
              cases w1 : tgW l A (tgD l A a b) a b k with
              | false =>
                rw [srch_0 w1, es] at ih
                exact ih
              | true =>
                rw [srch_s w1 es, if_neg nl] at ih
                exact ih
            · refine go84 (fun c' hc => ?_) e1
              cases hc
              exact Nat.lt_of_not_le (fun hh => e3 (nI_le hh (by omega)))
        · rw [srch_0 (tgW_f (fun hh => e1 ((sdf_is0 hk).mpr hh.1)))] at ih
          exact ih
    have t := go 1 (by omega)
    have w0 : tgW l A (tgD l A a b) a b 0 = false := tgW_f (fun hh => e (by have := hh.2; rw [sdf_0r] at this; exact this))
    rw [srch_0 w0] at t
    rw [bt_eq a (by omega), bt_eq b (by omega), nI_sdf, nI_sdf]
    rw [bt_eq b (by omega)] at t
    exact t
theorem e_guards {a b : Nat} (hd : 5 ≤ d) (hL : LM l S) (hA : ScM l (S 77) 0 A) (hO : COk l A) (hGo : GOk l A) (ha : a < lb l) (hb : b < lb l) (h : Q (oI (srch (tgW l A (tgA l a b) a b) (2 ^ lb l))) S) : k_m_toGuard_75 E d S (nI a) (nI b) (nI (tgA l a b)) (-1) 0 Q := by
  have b10 := hL.ok.b10
  have p10 : 2 ^ lb l ≤ 1024 := Nat.pow_le_pow_right (n := 2) (by decide) b10
  have e4 : (1 : Int32) <<< (S 65 4 &&& 31) = nI (2 ^ lb l) := by
    rw [hL.b, ← bt_eq (lb l) (by omega)]
    rfl
  have go : ∀ k, k ≤ 2 ^ lb l → k_m_toGuard_75 E d S (nI a) (nI b) (nI (tgA l a b)) (oI (srch (tgW l A (tgA l a b) a b) k)) k Q := by
    refine dn (2 ^ lb l) ?_ (fun k hk ih => ?_)
    · refine w_m_toGuard_75 (by omega) ?_
      rw [e4, if_pos (nI_le (Nat.le_refl _) (by omega))]
      exact h
    · refine w_m_toGuard_75 (by omega) ?_
      rw [e4, if_neg (nI_ge hk (by omega)), nI_sdf]
      have go84 : (∀ c, srch (tgW l A (tgA l a b) a b) k = some c → cnt k 10 < cnt c 10) → sub k (tgA l a b) → k_m_toGuard_117 E d S (nI a) (nI b) (nI (tgA l a b)) (oI (srch (tgW l A (tgA l a b) a b) k)) k Q := by
        intro hc hk2
        refine w_m_toGuard_117 (by omega) (e_free (o := 0) (by omega) hL (by omega) hA hGo ?_)
        rw [nI_sdf, show (1 : Int32) <<< (nI a &&& 31) = bt a from rfl, bt_eq a (by omega)]
        refine e_setOff (o := 0) (by omega) hL (by omega) hA hO (Nat.pow_lt_pow_right (by decide) ha) (p31 hL.ok (sub_lt (sdf_sub _ _) freM_lt)) ?_
        rw [nI_sbit (p31 hL.ok (clo_lt _ _)) (by omega)]
        refine izb (fun e2 => ?_) (fun e2 => ?_)
        · rw [srch_0 (tgW_f (fun hh => by rw [e2] at hh; cases hh.2))] at ih
          exact ih
        · have w1 : tgW l A (tgA l a b) a b k = true := tgW_t.mpr ⟨hk2, by simpa using e2⟩
          cases es : srch (tgW l A (tgA l a b) a b) k with
          | none =>
            rw [srch_n w1 es] at ih
            exact ih
          | some c =>
            rw [srch_s w1 es, if_pos (hc c es)] at ih
            exact ih
      refine ife (fun e1 => ?_) (fun e1 => ?_)
      · rw [sdf_is0 (by omega)] at e1
        cases es : srch (tgW l A (tgA l a b) a b) k with
        | none =>
          rw [es] at go84
          rw [if_pos (show oI none = -1 from rfl)]
          exact go84 (fun c hc => by cases hc) e1
        | some c =>
          have lc := srch_lt es
          rw [es] at go84
          rw [if_neg (show ¬ oI (some c) = -1 from oI_ne (by omega))]
          refine e_bits (by omega) (e_bits (m := c) (by omega) ?_)
          have := cnt_le k 10
          have := cnt_le c 10
          refine ilt (by omega) (by omega) (fun e3 => ?_) (fun e3 => ?_)
          · refine go84 (fun c' hc => ?_) e1
            cases hc
            exact e3
          · cases w1 : tgW l A (tgA l a b) a b k with
            | false =>
              rw [srch_0 w1, es] at ih
              exact ih
            | true =>
              rw [srch_s w1 es, if_neg (by omega)] at ih
              exact ih
      · rw [srch_0 (tgW_f (fun hh => e1 ((sdf_is0 (by omega)).mpr hh.1)))] at ih
        exact ih
  exact go 0 (Nat.zero_le _)
end PM
/-! the call -/
noncomputable def vGuard (G : Gst) (a b : Int32) : Int32 := if a = b then -1 else tgV (gl G) (gA G) (tN a) (tN b)
def cGuard (G : Gst) (a b : Int32) : Nat := cd3 (ng (lb (gl G)) a) (ng (lb (gl G)) b) false
section PN
variable {G : Gst} {S : St} {E : zX} {d : Nat} {Q : Int32 → St → Prop} {X : Nat → St → Prop}
theorem x_toGuard {a b : Int32} (hd : 20 ≤ d) (hG : GInv G) (hR : RelC G S) (hn : (S 1000 0).toNatClampNeg < 1000000) (h : cGuard G a b = 0 → ∀ S', QC S S' → Q (vGuard G a b) S') (hX : ∀ k, cGuard G a b = k + 1 → X k (upT S)) : k_x_toGuard E d S a b Q X := by
  have b10 := hG.1.b10
  refine w_x_toGuard (by omega) (n_ball (by omega) hR.lc hn (fun x hx ea => ?_) (fun e => hX 0 (by unfold cGuard cd3; rw [e]; rfl)))
  subst ea
  refine n_ball (by omega) hR.lc hn (fun y hy eb => ?_) (fun e => hX 0 (by unfold cGuard cd3; rw [e, ng_f (by omega) hx]; rfl))
  subst eb
  have h := h (by unfold cGuard cd3; rw [ng_f (by omega) hx, ng_f (by omega) hy]; rfl)
  unfold vGuard at h
  rw [tN_nI (by omega), tN_nI (by omega)] at h
  refine ife (fun e => ?_) (fun e => ?_)
  · rw [if_pos e] at h
    exact h S (QC.refl S)
  · rw [if_neg e] at h
    exact c_guardsBetween (by omega) hR.lc hR.sc hG.cok hx hy (fun S' f => h S' (QC_fr f (fun k hk => by simp only [List.mem_cons, List.not_mem_nil, or_false] at hk; omega)))
theorem m_toGuard {a b : Int32} (hd : 20 ≤ d) (hG : GInv G) (hR : RelM G S) (h : ∀ S' v, QM S S' → S' 65 0 = nI (cGuard G a b) → (cGuard G a b = 0 → v = vGuard G a b) → Q v S') : k_m_toGuard E d S a b Q := by
  have b10 := hG.1.b10
  refine w_m_toGuard (by omega) (fun S1 e1 => ?_)
  have q1 : QM S S1 := by
    rw [e1]
    exact QM_up _ (by decide)
  have t1 : S1 65 0 = 0 := by rw [e1, up_same, upd_same]
  have L1 := LM_qm hR.lm q1
  have bad : cGuard G a b = 1 → Q 0 (up S1 65 0 1) := fun hc => h _ _ (q1.trans (QM_up _ (by decide))) (by rw [up_same, upd_same, hc]; rfl) (fun hh => by rw [hh] at hc; cases hc)
  have n1 : ¬ (1 : Int32) = 0 := by decide
  refine e_isBall (by omega) L1 t1 (fun x hx ea => ?_) (fun e => ?_)
  · subst ea
    rw [if_neg n1]
    refine e_isBall (by omega) L1 t1 (fun y hy eb => ?_) (fun e => ?_)
    · subst eb
      rw [if_neg n1]
      have c0 : cGuard G (nI x) (nI y) = 0 := by unfold cGuard cd3; rw [ng_f (by omega) hx, ng_f (by omega) hy]; rfl
      have A1 : ScM (gl G) (S1 77) 0 (gA G) := ScM_lo hG.1 hR.sc (fun i hi => q1.2.2 i hi)
      have h : vGuard G (nI x) (nI y) = vGuard G (nI x) (nI y) → Q (vGuard G (nI x) (nI y)) S1 := fun _ => h S1 _ q1 (by rw [t1, c0]; rfl) (fun _ => rfl)
      have h := h rfl
      unfold vGuard at h
      rw [tN_nI (by omega), tN_nI (by omega)] at h
      refine ife (fun e => ?_) (fun e => ?_)
      · rw [if_pos e] at h
        rw [if_pos t1]
        exact h
      · rw [if_neg e] at h
        unfold tgV at h
        refine e_isWhite (o := 0) hG.1 (by omega) A1 hx (izb (fun hw => ?_) (fun hw => ?_))
        · rw [if_pos hw] at h
          exact h
        · rw [if_neg hw] at h
          rw [L1.b]
          rw [show (1 : Int32) <<< (nI (lb (gl G)) &&& 31) = bt (lb (gl G)) from rfl, show (1 : Int32) <<< (nI x &&& 31) = bt x from rfl, show (1 : Int32) <<< (nI y &&& 31) = bt y from rfl, bt_eq _ (by omega), bt_eq x (by omega), bt_eq y (by omega), show nI (2 ^ lb (gl G)) - (1 : Int32) = nI (2 ^ lb (gl G) - 1) from pk_sub (a := 2 ^ lb (gl G)) (b := 1) (Nat.pow_pos (by decide)), nI_or, nI_sdf]
          exact e_guards (by omega) L1 A1 hG.cok hG.gok hx hy h
    · rw [if_pos rfl, if_neg (by rw [up_same, upd_same]; decide)]
      exact bad (by unfold cGuard cd3; rw [ng_f (by omega) hx, show ng (lb (gl G)) b = true from decide_eq_true e]; rfl)
  · rw [if_pos rfl, if_neg (by rw [up_same, upd_same]; decide)]
    exact bad (by unfold cGuard cd3; rw [show ng (lb (gl G)) a = true from decide_eq_true e]; rfl)
end PN
