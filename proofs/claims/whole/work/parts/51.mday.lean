/-! THE REFERENCE: who goes out, rules, a day -/
section MD
variable {l : Lnd} {S : St} {E : zX} {d o : Nat} {A : Scn}
theorem e_lesser {a v : Int32} {Q : Int32 → St → Prop} (h : Q (if a < v then a else v) S) : k_m_lesser E d S a v Q := by
  refine w_m_lesser (ife (fun e => ?_) (fun e => ?_))
  · rw [if_neg (Int32.not_lt.mpr e)] at h
    exact h
  · rw [if_pos (Int32.not_le.mp e)] at h
    exact h
theorem FM.row {S' : St} (f : FM o S S') : ∀ i, i < o ∨ o + 79 ≤ i → S' 77 i = S 77 i := f.2.2
/-- what of a day's events stays -/
def Ev (S S' : St) (l : List Nat) : Prop := ∀ i, i ∈ l → S' 65 i = S 65 i
theorem Ev.refl (S : St) (l : List Nat) : Ev S S l := fun _ _ => rfl
theorem Ev.trans {S S1 S2 : St} {l : List Nat} (h1 : Ev S S1 l) (h2 : Ev S1 S2 l) : Ev S S2 l := fun i hi => (h2 i hi).trans (h1 i hi)
theorem Ev_row {S : St} {l : List Nat} (j : Nat) (v : Int32) : Ev S (up S 77 j v) l := fun i _ => by rw [up_ne _ _ _ (by decide)]
theorem Ev_up {S : St} {l : List Nat} (j : Nat) (v : Int32) (h : j ∉ l) : Ev S (up S 65 j v) l := fun i hi => by
  have hne : i ≠ j := fun e => h (by rw [← e]; exact hi)
  rw [up_same, upd_ne _ _ hne]
theorem Ev_fr {S S' : St} {l : List Nat} (f : Fr [79, 80] S S') : Ev S S' l := fun i _ => by rw [f 65 (by decide)]
theorem e_goOff {s : Nat} {Q : Int32 → St → Prop} (hd : 4 ≤ d) (hL : LM l S) (ho : o ≤ 79) (hA : ScM l (S 77) o A) (hO : COk l A) (hG : GOk l A) (hs : s < 2 ^ lb l) (h : ∀ S', FM o S S' → ScM l (S' 77) o (goOff l A s) → Ev S S' [47, 48] → S' 65 45 = S 65 45 ||| nI (clo l A (freM l A) s) → S' 65 46 = S 65 46 + nI (cnt (clo l A (freM l A) s) 10) → Fr [65, 77] S S' → Q (nI (cnt (clo l A (freM l A) s) 10)) S') : k_m_goOff E d S (nI o) (nI s) Q := by
  have b10 := hL.ok.b10
  have p7 := hL.ok.p7
  have hfre : freM l A < 2 ^ 31 := Nat.lt_of_lt_of_le (bits_lt (n := lb l) (fun i hi => by
    unfold freM
    rw [sdf_bit, show (heldM l A).testBit i = false from bit_ge (mkN_lt _ _) hi]
    rfl)) (Nat.pow_le_pow_right (by decide) (by omega))
  have hT31 : clo l A (freM l A) s < 2 ^ 31 := Nat.lt_of_lt_of_le (mkN_lt _ _) (Nat.pow_le_pow_right (by decide) (by omega))
  refine w_m_goOff (by omega) (e_free (by omega) hL ho hA hG (e_setOff (by omega) hL ho hA hO hs hfre ?_))
  unfold goOff at h
  generalize clo l A (freM l A) s = T at h hT31
  have all4 : ∀ S', FM o S S' → LM l S' := fun S' f => LM_fm hL f
  refine dn (P := fun k => ∀ S', FM o S S' → Fr [65, 77] S S' → Ev S S' [45, 46, 47, 48] → ScM l (S' 77) o (zfo (fun p A => hear A p (nI (nhr l A T p (lb l)))) k A) → k_m_goOff_15 E d S' o (nI T) k Q) (lp l) ?_ ?_ 0 (Nat.zero_le _) S (FM.refl _ _) (Fr.refl _ _) (Ev.refl _ _) hA
  · intro S3 F3 R3 V3 A3
    refine w_m_goOff_15 (by omega) (ilp (lp l) (all4 S3 F3).p (by omega) (by omega) (fun _ => ?_) (fun h => absurd h (Nat.lt_irrefl _)))
    refine dn (P := fun k => ∀ S', FM o S S' → Fr [65, 77] S S' → Ev S S' [45, 46, 47, 48] → ScM l (S' 77) o (zfo (fun x A => if T.testBit x then fill A x 0 (-1) else A) k (zfo (fun p A => hear A p (nI (nhr l A T p (lb l)))) (lp l) A)) → k_m_goOff_156 E d S' o (nI T) k Q) (lb l) ?_ ?_ 0 (Nat.zero_le _) S3 F3 R3 V3 A3
    · intro S4 F4 R4 V4 A4
      refine w_m_goOff_156 (by omega) (ilp (lb l) (all4 S4 F4).b (by omega) (by omega) (fun _ => ?_) (fun h => absurd h (Nat.lt_irrefl _)))
      intro S5 e5
      refine e_bits hT31 (fun S6 e6 => e_bits hT31 ?_)
      have e46 : S5 65 46 = S 65 46 := by
        rw [e5, up_same, upd_ne _ _ (by decide), V4 46 (by decide)]
      refine h S6 ?_ ?_ ?_ ?_ ?_ ?_
      · rw [e6, e5]
        exact (F4.trans (FM_ev _ _ (by decide))).trans (FM_ev _ _ (by decide))
      · rw [e6, e5, up_ne _ _ _ (by decide), up_ne _ _ _ (by decide)]
        exact A4
      · rw [e6, e5]
        exact fun i hi => ((V4 i (by simp only [List.mem_cons, List.not_mem_nil, or_false] at hi ⊢; omega)) ▸ (((Ev_up (l := [47, 48]) _ _ (by decide)).trans (Ev_up (l := [47, 48]) _ _ (by decide))) i hi))
      · rw [e6, up_same, upd_ne _ _ (by decide), e5, up_same, upd_same, V4 45 (by decide)]
      · rw [e6, up_same, upd_same, e46]
      · rw [e6, e5]
        exact (R4.trans (Fr.up _ _ (by decide))).trans (Fr.up _ _ (by decide))
    · intro k hk ih S4 F4 R4 V4 A4
      refine w_m_goOff_156 (by omega) (ilp (lb l) (all4 S4 F4).b (by omega) (by omega) (fun h => by omega) (fun _ => ?_))
      rw [nI_sbit hT31 (by omega)]
      refine ife (fun hc => ?_) (fun hc => ?_)
      · refine ih S4 F4 R4 V4 ?_
        show ScM l _ o (if T.testBit k then _ else _)
        rw [if_neg (zb_0.mp hc)]
        exact A4
      · have hc : T.testBit k = true := Classical.byContradiction (fun h => hc (zb_f h))
        refine ⟨by omega, fun S7 e7 => ⟨by omega, fun S8 e8 => ⟨by omega, fun S9 e9 => ?_⟩⟩⟩
        have A7 := ScM_set (k := 6) (i := k) (v := 0) hL.ok A4 (by decide) hk
        have A8 := ScM_set (k := 7) (i := k) (v := 0) hL.ok A7 (by decide) hk
        have A9 := ScM_set (k := 8) (i := k) (v := -1) hL.ok A8 (by decide) hk
        refine ih S9 ?_ ?_ ?_ ?_
        · rw [e9, e8, e7]
          exact ((F4.trans (FM_row _ _ (by omega) (by omega))).trans (FM_row _ _ (by omega) (by omega))).trans (FM_row _ _ (by omega) (by omega))
        · rw [e9, e8, e7]
          exact ((R4.trans (Fr.up _ _ (by decide))).trans (Fr.up _ _ (by decide))).trans (Fr.up _ _ (by decide))
        · rw [e9, e8, e7]
          exact ((V4.trans (Ev_row _ _)).trans (Ev_row _ _)).trans (Ev_row _ _)
        · show ScM l _ o (if T.testBit k then _ else _)
          rw [if_pos hc, e9, e8, e7]
          exact A9
  · intro k hk ih S3 F3 R3 V3 A3
    have e : zfo (fun p A => hear A p (nI (nhr l A T p (lb l)))) (k + 1) A = hear (zfo (fun p A => hear A p (nI (nhr l A T p (lb l)))) k A) k (nI (nhr l (zfo (fun p A => hear A p (nI (nhr l A T p (lb l)))) k A) T k (lb l))) := rfl
    have O3 : COk l (zfo (fun p A => hear A p (nI (nhr l A T p (lb l)))) k A) := zfo_inv (P := fun A' => COk l A') (fun _ A' _ h => COk_of h (hear5 _ _)) hO
    rw [e] at ih
    generalize zfo (fun p A => hear A p (nI (nhr l A T p (lb l)))) k A = B at ih A3 O3
    have L3 := all4 S3 F3
    refine w_m_goOff_15 (by omega) (ilp (lp l) L3.p (by omega) (by omega) (fun h => by omega) (fun _ => ?_))
    refine dn (P := fun j => k_m_goOff_30 E d S3 o (nI T) k (nI (nhr l B T k j)) j Q) (lb l) ?_ ?_ 0 (Nat.zero_le _)
    · refine w_m_goOff_30 (by omega) (ilp (lb l) L3.b (by omega) (by omega) (fun _ => ?_) (fun h => absurd h (Nat.lt_irrefl _)))
      refine ⟨by omega, ?_⟩
      rw [show S3 77 (o + 15 + k) = B 3 k from A3 3 k (by decide) hk]
      refine e_lesser ⟨by omega, fun S5 e5 => ⟨by omega, ?_⟩⟩
      have A5 := ScM_set (k := 3) (i := k) (v := m9999 (B 3 k + nI (nhr l B T k (lb l)))) hL.ok A3 (by decide) hk
      have e5 : S5 = up S3 77 (o + offM 3 + k) (m9999 (B 3 k + nI (nhr l B T k (lb l)))) := e5
      rw [← e5] at A5
      have e1 : S5 77 (o + 1 + k) = B 1 k := by
        have := A5 1 k (by decide) hk
        rw [ua_ne _ _ _ (by decide)] at this
        exact this
      rw [e1]
      refine e_lesser ⟨by omega, fun S6 e6 => ?_⟩
      have A6 := ScM_set (k := 1) (i := k) (v := m99 (B 1 k + 5 * nI (nhr l B T k (lb l)))) hL.ok A5 (by decide) hk
      have e6 : S6 = up S5 77 (o + offM 1 + k) (m99 (B 1 k + 5 * nI (nhr l B T k (lb l)))) := e6
      rw [← e6] at A6
      refine ih S6 ?_ ?_ ?_ A6
      · rw [e6, e5]
        exact (F3.trans (FM_row _ _ (by show o ≤ o + 15 + k; omega) (by show o + 15 + k < o + 79; omega))).trans (FM_row _ _ (by show o ≤ o + 1 + k; omega) (by show o + 1 + k < o + 79; omega))
      · rw [e6, e5]
        exact (R3.trans (Fr.up _ _ (by decide))).trans (Fr.up _ _ (by decide))
      · rw [e6, e5]
        exact (V3.trans (Ev_row _ _)).trans (Ev_row _ _)
    · intro j hj ihj
      have en : nhr l B T k (j + 1) = if T.testBit j && rch l B j (lhm l k) then nhr l B T k j + 1 else nhr l B T k j := rfl
      refine w_m_goOff_30 (by omega) (ilp (lb l) L3.b (by omega) (by omega) (fun h => by omega) (fun _ => ?_))
      rw [nI_sbit hT31 (by omega), show nI (nhr l B T k j) + (0 : Int32) = nI (nhr l B T k j) from nI_add _ 0]
      refine ife (fun hc => ?_) (fun hc => ?_)
      · rw [zb_1] at hc
        refine ⟨by omega, e_isIn (by omega) L3 ho A3 O3 hj (L3.hm hk) (L3.ok.hm hk) (izb (fun hr => ?_) (fun hr => ?_))⟩
        · rw [en, if_pos (by rw [hc, hr]; rfl)] at ihj
          rw [nI_1]
          exact ihj
        · rw [en, if_neg (by rw [hc]; simpa using hr)] at ihj
          exact ihj
      · rw [zb_1] at hc
        rw [en, if_neg (by simp [hc])] at ihj
        exact ihj
theorem e_ballFor {p : Nat} {Q : Int32 → St → Prop} (hd : 2 ≤ d) (hL : LM l S) (ho : o ≤ 79) (hA : ScM l (S 77) o A) (hO : COk l A) (hp : p < lp l) (h : (∀ y, nw l A p = some y → y < lb l) → Q (oI (nw l A p)) S) : k_m_ballFor E d S (nI o) (nI p) Q := by
  have b10 := hL.ok.b10
  have p7 := hL.ok.p7
  refine w_m_ballFor (by omega) ?_
  refine dn (P := fun k => (∀ y, zfo (nwS l A p) k none = some y → y < k) → k_m_ballFor_5 E d S o p (oI (zfo (nwS l A p) k none)) k Q) (lb l) ?_ ?_ 0 (Nat.zero_le _) (fun y h => by cases h)
  · intro ha
    exact w_m_ballFor_5 (by omega) (ilp (lb l) hL.b (by omega) (by omega) (fun _ => h ha) (fun h => absurd h (Nat.lt_irrefl _)))
  · intro k hk ih ha
    have e : zfo (nwS l A p) (k + 1) none = nwS l A p k (zfo (nwS l A p) k none) := rfl
    generalize hb : zfo (nwS l A p) k none = b at ha e
    rw [e] at ih
    have keep : nwS l A p k b = b → k_m_ballFor_5 E d S o p (oI b) (k + 1) Q := fun e2 => by
      rw [e2] at ih
      exact ih (fun y hy => Nat.lt_succ_of_lt (ha y hy))
    have take : nwS l A p k b = some k → k_m_ballFor_5 E d S o p (nI k) (k + 1) Q := fun e2 => by
      rw [e2] at ih
      exact ih (fun y hy => by cases hy; exact Nat.lt_succ_self _)
    refine w_m_ballFor_5 (by omega) (ilp (lb l) hL.b (by omega) (by omega) (fun h => by omega) (fun _ => ?_))
    refine e_isWhite hL.ok ho hA hk (izb (fun hw => ?_) (fun hw => ?_))
    · refine ⟨by omega, by omega, ?_⟩
      rw [show S 77 (o + 1 + p) = A 1 p from hA 1 p (by decide) hp, hL.sz hk]
      refine ife (fun hs => ?_) (fun hs => keep ?_)
      · have hs : ¬ nI (lsz l k) < A 1 p := Int32.not_lt.mpr hs
        cases b with
        | none =>
          rw [if_pos (show oI none = -1 from rfl)]
          refine take ?_
          unfold nwS
          rw [if_pos ⟨hw, hs⟩]
        | some y =>
          have hy := ha y rfl
          rw [if_neg (show ¬ oI (some y) = -1 from oI_ne (by omega))]
          have g1 := far_lt hL.ok.w6 hL.ok.2.2.2.1 hL.ok.w1 (hO k hk).2 (hL.ok.hm hp)
          have g2 := far_lt hL.ok.w6 hL.ok.2.2.2.1 hL.ok.w1 (hO y (by omega)).2 (hL.ok.hm hp)
          refine ⟨by omega, by omega, ?_⟩
          rw [show S 77 (o + 29 + k) = A 5 k from hA 5 k (by decide) hk]
          refine e_farOf (by omega) hL (hO k hk).1 (hL.hm hp) (hO k hk).2 (hL.ok.hm hp) ⟨o + 29 + y, nI_add _ _, by omega, by omega, ?_⟩
          rw [show S 77 (o + 29 + y) = A 5 y from hA 5 y (by decide) (by show y < lb l; omega)]
          refine e_farOf (by omega) hL (hO y (by omega)).1 (hL.hm hp) (hO y (by omega)).2 (hL.ok.hm hp) ?_
          refine ife (fun hc => ?_) (fun hc => ?_)
          · rw [nI_leI (by omega) (by omega)] at hc
            refine keep ?_
            unfold nwS
            rw [if_pos ⟨hw, hs⟩]
            show (if _ then _ else _) = _
            rw [if_neg (by omega)]
          · rw [nI_leI (by omega) (by omega)] at hc
            refine take ?_
            unfold nwS
            rw [if_pos ⟨hw, hs⟩]
            show (if _ then _ else _) = _
            rw [if_pos (by omega)]
      · unfold nwS
        rw [if_neg (fun h => h.2 (Int32.not_le.mp hs))]
    · refine keep ?_
      unfold nwS
      rw [if_neg (fun h => hw h.1)]
theorem e_goesOut {p : Nat} {Q : Int32 → St → Prop} (hd : 3 ≤ d) (hL : LM l S) (ho : o ≤ 79) (hA : ScM l (S 77) o A) (hO : COk l A) (hp : p < lp l) (h1 : ∀ A', goO l A p = some A' → ∀ S', FM o S S' → Fr [77] S S' → ScM l (S' 77) o A' → Q 1 S') (h0 : goO l A p = none → Q 0 S) : k_m_goesOut E d S (nI o) (nI p) Q := by
  have b10 := hL.ok.b10
  have p7 := hL.ok.p7
  refine w_m_goesOut (by omega) (e_ballFor (by omega) hL ho hA hO hp (fun hb => ?_))
  unfold goO at h1 h0
  cases e : nw l A p with
  | none =>
    rw [e] at h0
    rw [if_pos (show oI none = -1 from rfl)]
    exact h0 rfl
  | some x =>
    have hx := hb x e
    rw [e] at h1
    rw [if_neg (show ¬ oI (some x) = -1 from oI_ne (by omega))]
    refine ⟨by omega, o + 39 + x, nI_add _ _, by omega, fun S3 e3 => ⟨o + 59 + x, nI_add _ _, by omega, fun S5 e5 => ⟨o + 49 + x, nI_add _ _, by omega, fun S7 e7 => ⟨by omega, fun S9 e9 => ?_⟩⟩⟩⟩
    rw [show S 77 (o + 1 + p) = A 1 p from hA 1 p (by decide) hp] at e3
    have A3 := ScM_set (k := 6) (i := x) (v := A 1 p) hL.ok hA (by decide) hx
    have A5 := ScM_set (k := 8) (i := x) (v := nI p) hL.ok A3 (by decide) hx
    have A7 := ScM_set (k := 7) (i := x) (v := 0) hL.ok A5 (by decide) hx
    have A9 := ScM_set (k := 1) (i := p) (v := 0) hL.ok A7 (by decide) hp
    refine h1 _ rfl S9 ?_ ?_ ?_
    · rw [e9, e7, e5, e3]
      exact (((FM_row _ _ (by omega) (by omega)).trans (FM_row _ _ (by omega) (by omega))).trans (FM_row _ _ (by omega) (by omega))).trans (FM_row _ _ (by omega) (by omega))
    · rw [e9, e7, e5, e3]
      exact (((Fr.up _ _ (by decide)).trans (Fr.up _ _ (by decide))).trans (Fr.up _ _ (by decide))).trans (Fr.up _ _ (by decide))
    · rw [e9, e7, e5, e3]
      unfold fill
      rw [ua_comm (ua A 6 x (A 1 p)) (k := 7) (k' := 8) x x 0 (nI p) (by decide)]
      exact A9
end MD
