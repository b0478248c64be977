/-! CALLS THAT ACT: image, restore in the reference; feed -/
section EI
variable {G : Gst} {S : St} {E : zX} {d : Nat} {Q : Int32 → St → Prop} {X : Nat → St → Prop}
theorem e_copies {a b n : Nat} {Q : St → Prop} (ha : Ai a n) (hb : Ai b n) (hn : n < 1000000) (hne : a ≠ b) (h : ∀ S', (∀ k, k ≠ b → S' k = S k) → (∀ i, i < n → S' b i = S a i) → Q S') : k_m_copies E d S a b Q := by
  refine w_m_copies (na1 := n) (na2 := n) ha (by omega) hb (by omega) ?_
  have go : ∀ k, k ≤ n → ∀ S1 : St, (∀ k, k ≠ b → S1 k = S k) → (∀ i, i < k → S1 b i = S a i) → k_m_copies_2 E d S1 a b k Q := by
    refine dn n ?_ (fun k hk ih => ?_)
    · intro S1 f1 g1
      refine w_m_copies_2 (na1 := n) (na2 := n) ha (by omega) hb (by omega) ?_
      rw [if_pos (nI_le (Nat.le_refl n) (by omega))]
      exact h S1 f1 g1
    · intro S1 f1 g1
      refine w_m_copies_2 (na1 := n) (na2 := n) ha (by omega) hb (by omega) ?_
      rw [if_neg (nI_ge hk (by omega))]
      refine ⟨hk, hk, fun S2 e2 => ih S2 (fun j hj => by rw [e2, up_ne _ _ _ hj, f1 j hj]) (fun i hi => ?_)⟩
      rw [e2, up_same]
      by_cases e : i = k
      · rw [e, upd_same, f1 a hne]
      · rw [upd_ne _ _ e]
        exact g1 i (by omega)
  exact go 0 (by omega) S (fun _ _ => rfl) (fun i hi => by omega)
theorem BkM_cp {l : Lnd} {r a s r' a' s' : Nat → Int32} {na ns : Int32} {b : Bok} (hl : LOk l) (h40 : b.2.1.1 ≤ 40) (h8 : b.2.2.1 ≤ 8) (h : BkM l r a s na ns b) (e1 : ∀ i, i < 79 → r' i = r i) (e2 : ∀ i, i < 3160 → a' i = a i) (e3 : ∀ i, i < 24 → s' i = s i) : BkM l r' a' s' na ns b := by
  obtain ⟨h1, h2, h3, h4, h5⟩ := h
  refine ⟨ScM_cp hl h1 (fun i hi => ?_), h2, fun j hj => ScM_cp hl (h3 j hj) (fun i hi => e2 _ (by omega)), h4, fun j hj => ?_⟩
  · rw [Nat.zero_add]
    exact e1 i hi
  · rw [e3 _ (by omega), e3 _ (by omega), e3 _ (by omega)]
    exact h5 j hj
theorem m_image {Q : St → Prop} (hd : 20 ≤ d) (hG : GInv G) (hR : RelM G S) (h : ∀ S', ME (eImage G) S S' → S' 65 0 = 0 → Q S') : k_m_image E d S Q := by
  refine w_m_image (by omega) (fun S1 e1 S2 e2 S3 e3 S4 e4 => ?_)
  have o4 : ∀ k, k ≠ 65 → S4 k = S k := fun k hk => by rw [e4, up_ne _ _ _ hk, e3, up_ne _ _ _ hk, e2, up_ne _ _ _ hk, e1, up_ne _ _ _ hk]
  have go : ∀ k, k ≤ 79 → ∀ S5 : St, (∀ k, k ≠ 88 → S5 k = S4 k) → (∀ i, i < k → S5 88 i = S4 77 i) → k_m_image_28 E d S5 k Q := by
    refine dn 79 ?_ (fun k hk ih => ?_)
    · intro S5 f5 g5
      refine w_m_image_28 (by omega) ?_
      rw [if_pos (nI_le (Nat.le_refl 79) (by omega))]
      refine e_copies (n := 3160) sh78 sh89 (by omega) (by decide) (fun S6 f6 g6 => e_copies (n := 24) sh85 sh90 (by omega) (by decide) (fun S7 f7 g7 => ?_))
      have x : ∀ k, k ≠ 65 → k ≠ 88 → k ≠ 89 → k ≠ 90 → S7 k = S k := fun k k1 k2 k3 k4 => by rw [f7 k k4, f6 k k3, f5 k k2, o4 k k1]
      have x65 : S7 65 = S4 65 := by rw [f7 65 (by decide), f6 65 (by decide), f5 65 (by decide)]
      have y : ∀ i, i ≠ 0 → i ≠ 58 → i ≠ 59 → i ≠ 60 → S7 65 i = S 65 i := fun i i1 i2 i3 i4 => by
        rw [x65, e4, up_same, upd_ne _ _ i4, e3, up_same, upd_ne _ _ i3, e2, up_same, upd_ne _ _ i2, e1, up_same, upd_ne _ _ i1]
      have y58 : S7 65 58 = 1 := by rw [x65, e4, up_same, upd_ne _ _ (by decide), e3, up_same, upd_ne _ _ (by decide), e2, up_same, upd_same]
      have y0 : S7 65 0 = 0 := by rw [x65, e4, up_same, upd_ne _ _ (by decide), e3, up_same, upd_ne _ _ (by decide), e2, up_same, upd_ne _ _ (by decide), e1, up_same, upd_same]
      have y59 : S7 65 59 = S 65 42 := by rw [x65, e4, up_same, upd_ne _ _ (by decide), e3, up_same, upd_same, e2, up_same, upd_ne _ _ (by decide), e1, up_same, upd_ne _ _ (by decide)]
      have y60 : S7 65 60 = S 65 53 := by rw [x65, e4, up_same, upd_same, e3, up_same, upd_ne _ _ (by decide), e2, up_same, upd_ne _ _ (by decide), e1, up_same, upd_ne _ _ (by decide)]
      obtain ⟨g1, g2, g3, g4, g5', g6', g7', g8⟩ := hR
      refine h S7 ⟨⟨LM_of g1 (fun i a b => y i (by omega) (by omega) (by omega) (by omega)) (x 66 (by decide) (by decide) (by decide) (by decide)) (x 67 (by decide) (by decide) (by decide) (by decide)) (x 68 (by decide) (by decide) (by decide) (by decide)), ?_, ?_, ?_, ?_, ?_, ?_, ?_⟩, fun k hk => x k (by omega) (by omega) (by omega) (by omega)⟩ y0
      · rw [x 77 (by decide) (by decide) (by decide) (by decide), x 78 (by decide) (by decide) (by decide) (by decide), x 85 (by decide) (by decide) (by decide) (by decide), y 42 (by decide) (by decide) (by decide) (by decide), y 53 (by decide) (by decide) (by decide) (by decide)]
        exact g2
      · rw [y58]
        exact (zb_t rfl).symm
      · intro b hb
        have hb : some (gb G) = some b := hb
        cases hb
        rw [y59, y60]
        refine BkM_cp hG.1 hG.a40 hG.s8 g2 (fun i hi => ?_) (fun i hi => ?_) (fun i hi => ?_)
        · rw [f7 88 (by decide), f6 88 (by decide), g5 i hi, o4 77 (by decide)]
        · rw [f7 89 (by decide), g6 i hi, f5 78 (by decide), o4 78 (by decide)]
        · rw [g7 i hi, f6 85 (by decide), f5 85 (by decide), o4 85 (by decide)]
      · rw [y 11 (by decide) (by decide) (by decide) (by decide)]
        exact g5'
      · rw [x 69 (by decide) (by decide) (by decide) (by decide)]
        exact g6'
      · rw [y 13 (by decide) (by decide) (by decide) (by decide)]
        exact g7'
      · rw [x 70 (by decide) (by decide) (by decide) (by decide)]
        exact g8
    · intro S5 f5 g5
      refine w_m_image_28 (by omega) ?_
      rw [if_neg (nI_ge hk (by omega))]
      refine ⟨by omega, hk, fun S6 e6 => ih S6 (fun j hj => by rw [e6, up_ne _ _ _ hj, f5 j hj]) (fun i hi => ?_)⟩
      rw [e6, up_same]
      by_cases e : i = k
      · rw [e, upd_same, f5 77 (by decide)]
      · rw [upd_ne _ _ e]
        exact g5 i (by omega)
  exact go 0 (by omega) S4 (fun _ _ => rfl) (fun i hi => by omega)
theorem m_restore (hd : 20 ≤ d) (hG : GInv G) (hR : RelM G S) (h : ∀ S', ME (eRestore G).2 S S' → S' 65 0 = 0 → Q (eRestore G).1 S') : k_m_restore E d S Q := by
  refine w_m_restore (by omega) (fun S1 e1 => ?_)
  have q1 : QM S S1 := by
    rw [e1]
    exact QM_up _ (by decide)
  have t1 : S1 65 0 = 0 := by rw [e1, up_same, upd_same]
  have R1 := RelM_qm hR q1
  rw [R1.2.2.1]
  unfold eRestore at h
  cases hi : gi G with
  | none =>
    rw [hi] at h
    rw [if_pos (zb_f (by decide))]
    exact h S1 (ME_qm hR q1) t1
  | some b =>
    rw [hi] at h
    rw [zb_t (show (some b).isSome = true from rfl), if_neg (by decide)]
    have hB := hG.2.2.1 b hi
    intro S2 e2 S3 e3
    have o3 : ∀ k, k ≠ 65 → S3 k = S1 k := fun k hk => by rw [e3, up_ne _ _ _ hk, e2, up_ne _ _ _ hk]
    have go : ∀ k, k ≤ 79 → ∀ S5 : St, (∀ k, k ≠ 77 → S5 k = S3 k) → (∀ i, i < k → S5 77 i = S3 88 i) → k_m_restore_32 E d S5 k Q := by
      refine dn 79 ?_ (fun k hk ih => ?_)
      · intro S5 f5 g5
        refine w_m_restore_32 (by omega) ?_
        rw [if_pos (nI_le (Nat.le_refl 79) (by omega))]
        refine e_copies (n := 3160) sh89 sh78 (by omega) (by decide) (fun S6 f6 g6 => e_copies (n := 24) sh90 sh85 (by omega) (by decide) (fun S7 f7 g7 => ?_))
        have x : ∀ k, k ≠ 65 → k ≠ 77 → k ≠ 78 → k ≠ 85 → S7 k = S1 k := fun k k1 k2 k3 k4 => by rw [f7 k k4, f6 k k3, f5 k k2, o3 k k1]
        have x65 : S7 65 = S3 65 := by rw [f7 65 (by decide), f6 65 (by decide), f5 65 (by decide)]
        have y : ∀ i, i ≠ 42 → i ≠ 53 → S7 65 i = S1 65 i := fun i i1 i2 => by
          rw [x65, e3, up_same, upd_ne _ _ i2, e2, up_same, upd_ne _ _ i1]
        have y42 : S7 65 42 = S1 65 59 := by rw [x65, e3, up_same, upd_ne _ _ (by decide), e2, up_same, upd_same]
        have y53 : S7 65 53 = S1 65 60 := by rw [x65, e3, up_same, upd_same, e2, up_same, upd_ne _ _ (by decide)]
        refine h S7 (ME.trans q1 (ME_b R1 (fun k hk => x k (fun hh => hk (by rw [hh]; decide)) (fun hh => hk (by rw [hh]; decide)) (fun hh => hk (by rw [hh]; decide)) (fun hh => hk (by rw [hh]; decide))) (fun i hi => y i (fun hh => hi (by rw [hh]; decide)) (fun hh => hi (by rw [hh]; decide))) ?_)) (by rw [y 0 (by decide) (by decide)]; exact t1)
        rw [y42, y53]
        refine BkM_cp hG.1 hB.2.1 hB.2.2.2.1 (R1.2.2.2.1 b hi) (fun i hi => ?_) (fun i hi => ?_) (fun i hi => ?_)
        · rw [f7 77 (by decide), f6 77 (by decide), g5 i hi, o3 88 (by decide)]
        · rw [f7 78 (by decide), g6 i hi, f5 89 (by decide), o3 89 (by decide)]
        · rw [g7 i hi, f6 90 (by decide), f5 90 (by decide), o3 90 (by decide)]
      · intro S5 f5 g5
        refine w_m_restore_32 (by omega) ?_
        rw [if_neg (nI_ge hk (by omega))]
        refine ⟨hk, by omega, fun S6 e6 => ih S6 (fun j hj => by rw [e6, up_ne _ _ _ hj, f5 j hj]) (fun i hi => ?_)⟩
        rw [e6, up_same]
        by_cases e : i = k
        · rw [e, upd_same, f5 88 (by decide)]
        · rw [upd_ne _ _ e]
          exact g5 i (by omega)
    exact go 0 (by omega) S3 (fun _ _ => rfl) (fun i hi => by omega)
/-! feed -/
def byt (a : Int32) (k : Nat) : Nat := (a.toBitVec.toNat >>> k) % 2 ^ 8
theorem byt_lt (a : Int32) (k : Nat) : byt a k < 256 := Nat.mod_lt _ (by decide)
theorem b255 : ∀ i, i < 32 → ((255 : Int32)).toBitVec.getLsbD i = decide (i < 8) := by decide +kernel
theorem byt_bit (a : Int32) (k i : Nat) (hi : i < 32) : (nI (byt a k)).toBitVec.getLsbD i = (a.toBitVec.getLsbD (k + i) && decide (i < 8)) := by
  rw [nI_bit]
  unfold byt
  rw [Nat.testBit_mod_two_pow, Nat.testBit_shiftRight, decide_eq_true hi, Bool.true_and, Bool.and_comm]
  rfl
theorem byt_c (a s : Int32) {k : Nat} (hk : ((s.toUInt32 &&& Int32.toUInt32 31).toBitVec % 32).toNat = k) : (zushr a s) &&& (255 : Int32) = nI (byt a k) := i_ext (fun i hi => by
  rw [byt_bit a k i hi, Int32.toBitVec_and, BitVec.getLsbD_and, b255 i hi]
  have e : (zushr a s).toBitVec = a.toBitVec >>> k := by
    subst hk
    rfl
  rw [e, BitVec.getLsbD_ushiftRight])
theorem byt_m (a s : Int32) {k : Nat} (h24 : k ≤ 24) (hk : ((s &&& 31).toBitVec.smod 32).toNat = k) : (a >>> (s &&& 31)) &&& (255 : Int32) = nI (byt a k) := i_ext (fun i hi => by
  rw [byt_bit a k i hi, Int32.toBitVec_and, BitVec.getLsbD_and, b255 i hi]
  by_cases h8 : i < 8
  · rw [Int32.toBitVec_shiftRight, BitVec.sshiftRight', hk, BitVec.getLsbD_sshiftRight, if_pos (by omega), decide_eq_false (by omega : ¬ 32 ≤ i)]
    rfl
  · rw [decide_eq_false h8, Bool.and_false, Bool.and_false])
abbrev Tap : Type := Nat × (Nat → Int32)
def ad1 (T : Tap) (b : Int32) : Tap := (T.1 + 1, upd T.2 T.1 b)
def ad4 (T : Tap) (v : Int32) : Tap := ad1 (ad1 (ad1 (ad1 T (nI (byt v 24))) (nI (byt v 16))) (nI (byt v 8))) (nI (byt v 0))
def Tp (o p c : Nat) (T : Tap) (S : St) : Prop := S o p = nI T.1 ∧ ∀ i, i < T.1 → S c i = T.2 i
def Tf (o p c : Nat) (S S' : St) : Prop := (∀ k, k ≠ o → k ≠ c → S' k = S k) ∧ ∀ i, i ≠ p → S' o i = S o i
theorem Tf.refl (o p c : Nat) (S : St) : Tf o p c S S := ⟨fun _ _ _ => rfl, fun _ _ => rfl⟩
theorem Tf.trans {o p c : Nat} {S S1 S2 : St} (h1 : Tf o p c S S1) (h2 : Tf o p c S1 S2) : Tf o p c S S2 := ⟨fun k a b => (h2.1 k a b).trans (h1.1 k a b), fun i a => (h2.2 i a).trans (h1.2 i a)⟩
theorem Tp_1 {o p c : Nat} {T : Tap} {b : Int32} {S1 S2 S3 : St} (ho : o ≠ c) (h : Tp o p c T S1) (e2 : S2 = up S1 c T.1 b) (e3 : S3 = up S2 o p (S2 o p + 1)) : Tp o p c (ad1 T b) S3 ∧ Tf o p c S1 S3 := by
  have x2 : S2 o = S1 o := by rw [e2, up_ne _ _ _ ho]
  refine ⟨⟨?_, fun i hi => ?_⟩, fun k a b => ?_, fun i a => ?_⟩
  · rw [e3, up_same, upd_same, x2, h.1, nI_1]
    rfl
  · rw [e3, up_ne _ _ _ (fun hh => ho hh.symm), e2, up_same]
    show upd (S1 c) T.1 b i = upd T.2 T.1 b i
    have hi : i < T.1 + 1 := hi
    by_cases e : i = T.1
    · rw [e, upd_same, upd_same]
    · rw [upd_ne _ _ e, upd_ne _ _ e]
      exact h.2 i (by omega)
  · rw [e3, up_ne _ _ _ a, e2, up_ne _ _ _ b]
  · rw [e3, up_same, upd_ne _ _ a, x2]
theorem c_append {T : Tap} {v : Int32} {Q : St → Prop} (h7 : T.1 + 4 ≤ 700) (hT : Tp 0 1 1 T S) (h : ∀ S', Tf 0 1 1 S S' → Tp 0 1 1 (ad4 T v) S' → Q S') : k_x_append E d S v Q := by
  have st : ∀ (T1 : Tap) (s : Int32) (k : Nat) (S1 : St), Tp 0 1 1 T1 S1 → T1.1 < 700 → ¬ s < 0 → ((s.toUInt32 &&& Int32.toUInt32 31).toBitVec % 32).toNat = k → (∀ S3, Tf 0 1 1 S1 S3 → Tp 0 1 1 (ad1 T1 (nI (byt v k))) S3 → k_x_append_3 E d S3 v (s + (-8)) Q) → k_x_append_3 E d S1 v s Q := by
    intro T1 s k S1 t1 l1 hs hk nx
    refine w_x_append_3 ?_
    rw [if_neg hs, t1.1, if_neg (show ¬ (700 : Int32) ≤ nI T1.1 from nI_ge (b := 700) l1 (by omega))]
    refine ⟨T1.1, rfl, l1, fun S2 e2 S3 e3 => ?_⟩
    rw [byt_c v s hk] at e2
    obtain ⟨t3, f3⟩ := Tp_1 (by decide) t1 e2 e3
    exact nx S3 f3 t3
  refine w_x_append (st T 24 24 S hT (by omega) (by decide) (by decide) (fun S1 f1 t1 => ?_))
  refine st _ _ 16 S1 t1 (show T.1 + 1 < 700 by omega) (by decide) (by decide) (fun S2 f2 t2 => ?_)
  refine st _ _ 8 S2 t2 (show T.1 + 1 + 1 < 700 by omega) (by decide) (by decide) (fun S3 f3 t3 => ?_)
  refine st _ _ 0 S3 t3 (show T.1 + 1 + 1 + 1 < 700 by omega) (by decide) (by decide) (fun S4 f4 t4 => ?_)
  refine w_x_append_3 ?_
  rw [if_pos (by decide)]
  exact h S4 (((f1.trans f2).trans f3).trans f4) t4
theorem e_lays {T : Tap} {v : Int32} {Q : St → Prop} (h7 : T.1 + 4 ≤ 700) (hT : Tp 65 11 69 T S) (h : ∀ S', Tf 65 11 69 S S' → Tp 65 11 69 (ad4 T v) S' → Q S') : k_m_lays E d S v Q := by
  have st : ∀ (T1 : Tap) (s : Int32) (k : Nat) (S1 : St), Tp 65 11 69 T1 S1 → T1.1 < 700 → ¬ s < 0 → k ≤ 24 → ((s &&& 31).toBitVec.smod 32).toNat = k → (∀ S3, Tf 65 11 69 S1 S3 → Tp 65 11 69 (ad1 T1 (nI (byt v k))) S3 → k_m_lays_3 E d S3 v (s + (-8)) Q) → k_m_lays_3 E d S1 v s Q := by
    intro T1 s k S1 t1 l1 hs h24 hk nx
    refine w_m_lays_3 ?_
    rw [if_neg hs, t1.1]
    refine ⟨T1.1, rfl, l1, fun S2 e2 S3 e3 => ?_⟩
    rw [byt_m v s h24 hk] at e2
    obtain ⟨t3, f3⟩ := Tp_1 (by decide) t1 e2 e3
    exact nx S3 f3 t3
  refine w_m_lays (st T 24 24 S hT (by omega) (by decide) (by decide) (by decide) (fun S1 f1 t1 => ?_))
  refine st _ _ 16 S1 t1 (show T.1 + 1 < 700 by omega) (by decide) (by decide) (by decide) (fun S2 f2 t2 => ?_)
  refine st _ _ 8 S2 t2 (show T.1 + 1 + 1 < 700 by omega) (by decide) (by decide) (by decide) (fun S3 f3 t3 => ?_)
  refine st _ _ 0 S3 t3 (show T.1 + 1 + 1 + 1 < 700 by omega) (by decide) (by decide) (by decide) (fun S4 f4 t4 => ?_)
  refine w_m_lays_3 ?_
  rw [if_pos (by decide)]
  exact h S4 (((f1.trans f2).trans f3).trans f4) t4
def wT (G : Gst) (T : Tap) : Gst := (G.1, G.2.1, G.2.2.1, T, G.2.2.2.2)
def eFeed (G : Gst) (a b c e f : Int32) : Int32 × Gst := if gtn G + 20 ≤ 700 then (nI (gtn G + 20), wT G (ad4 (ad4 (ad4 (ad4 (ad4 (gtn G, gt G) a) b) c) e) f)) else (-1, G)
theorem feed_if {A B : Prop} {n : Nat} (hn : n ≤ 700) (h1 : n + 20 ≤ 700 → A) (h0 : ¬ n + 20 ≤ 700 → B) : if nI n + (20 : Int32) ≤ 700 then A else B := by
  have e : nI n + (20 : Int32) = nI (n + 20) := nI_add n 20
  rw [e]
  by_cases h : n + 20 ≤ 700
  · rw [if_pos (show nI (n + 20) ≤ (700 : Int32) from nI_le (b := 700) h (by omega))]
    exact h1 h
  · rw [if_neg (show ¬ nI (n + 20) ≤ (700 : Int32) from nI_ge (a := 700) (by omega) (by omega))]
    exact h0 h
theorem x_feed {a b c e f : Int32} (hd : 20 ≤ d) (hG : GInv G) (hR : RelC G S) (h : ∀ S', CE (eFeed G a b c e f).2 S S' → Q (eFeed G a b c e f).1 S') : k_x_feed E d S a b c e f Q := by
  refine w_x_feed (by omega) ?_
  have h7 : gtn G ≤ 700 := hG.2.2.2.1
  obtain ⟨r1, r2, r3, r4, r5, r6, r7, r8⟩ := id hR
  rw [r5]
  unfold eFeed at h
  refine feed_if h7 (fun hc => ?_) (fun hc => ?_)
  · rw [if_pos hc] at h
    refine c_append (T := (gtn G, gt G)) (show gtn G + 4 ≤ 700 by omega) ⟨r5, r6⟩ (fun S1 f1 t1 => ?_)
    refine c_append (show gtn G + 4 + 4 ≤ 700 by omega) t1 (fun S2 f2 t2 => ?_)
    refine c_append (show gtn G + 4 + 4 + 4 ≤ 700 by omega) t2 (fun S3 f3 t3 => ?_)
    refine c_append (show gtn G + 4 + 4 + 4 + 4 ≤ 700 by omega) t3 (fun S4 f4 t4 => ?_)
    refine c_append (show gtn G + 4 + 4 + 4 + 4 + 4 ≤ 700 by omega) t4 (fun S5 f5 t5 => ?_)
    have ff := (((f1.trans f2).trans f3).trans f4).trans f5
    rw [t5.1]
    refine h S5 ⟨⟨LC_fr r1 (fun k a b => ff.1 k (by omega) (by omega)), BkC_of r2 (fun k a b => ff.1 k (by omega) (by omega)), ?_, fun b hb => BkC_of (r4 b hb) (fun k a b => ff.1 k (by omega) (by omega)), t5.1, t5.2, ?_, ?_⟩, fun k hk => ff.1 k (by omega) (by omega)⟩
    · rw [ff.2 8 (by decide)]
      exact r3
    · rw [ff.2 2 (by decide)]
      exact r7
    · rw [ff.1 2 (by decide) (by decide)]
      exact r8
  · rw [if_neg hc] at h
    exact h S (CE_qc hR (QC.refl S))
theorem m_feed {a b c e f : Int32} (hd : 20 ≤ d) (hG : GInv G) (hR : RelM G S) (h : ∀ S', ME (eFeed G a b c e f).2 S S' → S' 65 0 = 0 → Q (eFeed G a b c e f).1 S') : k_m_feed E d S a b c e f Q := by
  refine w_m_feed (by omega) (fun S0 e0 => ?_)
  have q0 : QM S S0 := by
    rw [e0]
    exact QM_up _ (by decide)
  have t0 : S0 65 0 = 0 := by rw [e0, up_same, upd_same]
  have R0 := RelM_qm hR q0
  have h7 : gtn G ≤ 700 := hG.2.2.2.1
  obtain ⟨r1, r2, r3, r4, r5, r6, r7, r8⟩ := id R0
  rw [r5]
  unfold eFeed at h
  refine feed_if h7 (fun hc => ?_) (fun hc => ?_)
  · rw [if_pos hc] at h
    refine e_lays (T := (gtn G, gt G)) (show gtn G + 4 ≤ 700 by omega) ⟨r5, r6⟩ (fun S1 f1 t1 => ?_)
    refine e_lays (show gtn G + 4 + 4 ≤ 700 by omega) t1 (fun S2 f2 t2 => ?_)
    refine e_lays (show gtn G + 4 + 4 + 4 ≤ 700 by omega) t2 (fun S3 f3 t3 => ?_)
    refine e_lays (show gtn G + 4 + 4 + 4 + 4 ≤ 700 by omega) t3 (fun S4 f4 t4 => ?_)
    refine e_lays (show gtn G + 4 + 4 + 4 + 4 + 4 ≤ 700 by omega) t4 (fun S5 f5 t5 => ?_)
    have ff := (((f1.trans f2).trans f3).trans f4).trans f5
    rw [t5.1]
    refine h S5 (ME.trans q0 ⟨⟨LM_of r1 (fun i a b => ff.2 i (by omega)) (ff.1 66 (by decide) (by decide)) (ff.1 67 (by decide) (by decide)) (ff.1 68 (by decide) (by decide)), ?_, ?_, ?_, t5.1, t5.2, ?_, ?_⟩, fun k hk => ff.1 k (by omega) (by omega)⟩) (by rw [ff.2 0 (by decide)]; exact t0)
    · rw [ff.1 77 (by decide) (by decide), ff.1 78 (by decide) (by decide), ff.1 85 (by decide) (by decide), ff.2 42 (by decide), ff.2 53 (by decide)]
      exact r2
    · rw [ff.2 58 (by decide)]
      exact r3
    · intro b hb
      rw [ff.1 88 (by decide) (by decide), ff.1 89 (by decide) (by decide), ff.1 90 (by decide) (by decide), ff.2 59 (by decide), ff.2 60 (by decide)]
      exact r4 b hb
    · rw [ff.2 13 (by decide)]
      exact r7
    · rw [ff.1 70 (by decide) (by decide)]
      exact r8
  · rw [if_neg hc] at h
    exact h S0 (ME_qm hR q0) t0
end EI
