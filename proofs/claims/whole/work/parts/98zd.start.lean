/-! THE BEGINNING: from nothing to the loop; all together -/
def y_l0 : Lnd := (fun k => if k < 2 then 4 else 0, fun _ => 0, fun _ => 0, (0, fun _ => (0, 0)), (0, fun _ => (0, 0)))
def y_b0 : Bok := (fun _ _ => 0, (0, fun _ _ _ => 0), (0, fun _ => (0, 0, 0)))
def y_G0 : Gst := (y_l0, y_b0, none, (0, fun _ => 0), -1, fun _ => 0)
theorem y_rok : ROk (0, fun _ => (0, 0)) := ⟨fun i h => absurd h (Nat.not_lt_zero i), fun h => absurd h (Nat.lt_irrefl 0), by decide⟩
theorem y_lok : LOk y_l0 := ⟨by decide, by decide, by decide, by decide, by decide, by decide, fun i h => absurd h (Nat.not_lt_zero i), fun i h => absurd h (Nat.not_lt_zero i), y_rok, y_rok⟩
theorem y_ginv : GInv y_G0 := ⟨y_lok, ⟨⟨fun i h => absurd h (Nat.not_lt_zero i), fun i h => absurd h (Nat.not_lt_zero i)⟩, by decide, fun i h => absurd h (Nat.not_lt_zero i), by decide, fun i h => absurd h (Nat.not_lt_zero i)⟩, fun b hb => (by have hb : (none : Option Bok) = some b := hb; cases hb), by decide, fun i h => absurd h (Nat.not_lt_zero i)⟩
theorem y_rng {k i : Nat} (h : i < rng y_l0 k) : k = 0 ∧ i = 0 := by
  unfold rng at h
  by_cases hk : k = 0
  · rw [if_pos hk] at h
    omega
  · rw [if_neg hk] at h
    by_cases h5 : k < 5
    · rw [if_pos h5] at h
      exact absurd h (Nat.not_lt_zero i)
    · rw [if_neg h5] at h
      exact absurd h (Nat.not_lt_zero i)
theorem y_okV_get {h : List zC} : ∀ (l : List (Nat × Nat × Int32)), y_okV h l = true → ∀ k i v, (k, i, v) ∈ l → y_st h k i = v
  | [], _, _, _, _, hm => by cases hm
  | q :: r, ho, k, i, v, hm => by
    have ho : ((y_st h q.1 q.2.1 == q.2.2) && y_okV h r) = true := ho
    rw [Bool.and_eq_true] at ho
    rcases List.mem_cons.mp hm with e | e
    · have := eq_of_beq ho.1
      rw [← e] at this
      exact this
    · exact y_okV_get r ho.2 k i v e
theorem y_okG_get {h : List zC} : ∀ (n : Nat), y_okG h n = true → ∀ c, c < n → y_st h 10 c = nI (c % 4) ∧ y_st h 11 c = nI (c / 4)
  | 0, _, c, hc => absurd hc (Nat.not_lt_zero c)
  | n + 1, ho, c, hc => by
    have ho : (((y_st h 10 n == nI (n % 4)) && (y_st h 11 n == nI (n / 4))) && y_okG h n) = true := ho
    rw [Bool.and_eq_true, Bool.and_eq_true] at ho
    by_cases e : c = n
    · subst e
      exact ⟨eq_of_beq ho.1.1, eq_of_beq ho.1.2⟩
    · exact y_okG_get n ho.2 c (by omega)
theorem y_li {h : List zC} (hV : y_okV h y_vals = true) (hG : y_okG h 16 = true) (hl : h.length ≤ 1000) : LI (y_st h) 0 := by
  have v : ∀ k i x, (k, i, x) ∈ y_vals → y_st h k i = x := y_okV_get y_vals hV
  have r3 : ∀ k, (k = 2 ∨ k = 70) → ∀ i, i < 3 → y_st h k i = 0 := by
    intro k hk i hi
    rcases hk with rfl | rfl <;> rcases (show i = 0 ∨ i = 1 ∨ i = 2 by omega) with rfl | rfl | rfl <;> exact v _ _ _ (by decide +kernel)
  refine ⟨y_G0, y_ginv, ?_, ?_, ?_⟩
  · refine ⟨⟨y_lok, v 3 0 4 (by decide +kernel), v 3 1 4 (by decide +kernel), v 3 2 16 (by decide +kernel), v 3 3 0 (by decide +kernel), v 3 4 0 (by decide +kernel), fun i g => absurd g (Nat.not_lt_zero i), fun i g => absurd g (Nat.not_lt_zero i), fun c g => y_okG_get 16 hG c g, ⟨v 6 1 0 (by decide +kernel), fun i g => absurd g (Nat.not_lt_zero i)⟩, ⟨v 8 1 0 (by decide +kernel), fun i g => absurd g (Nat.not_lt_zero i)⟩⟩, ⟨⟨?_, v 26 1 0 (by decide +kernel)⟩, v 24 1 0 (by decide +kernel), fun i g => absurd g (Nat.not_lt_zero i), v 24 3 0 (by decide +kernel), fun i g => absurd g (Nat.not_lt_zero i)⟩, v 0 8 0 (by decide +kernel), fun b hb => (by have hb : (none : Option Bok) = some b := hb; cases hb), v 0 1 0 (by decide +kernel), fun i g => absurd g (Nat.not_lt_zero i), v 0 2 (-1) (by decide +kernel), r3 2 (Or.inl rfl)⟩
    intro k i _ g
    obtain ⟨rfl, rfl⟩ := y_rng g
    exact v 26 0 0 (by decide +kernel)
  · refine ⟨⟨y_lok, v 65 1 4 (by decide +kernel), v 65 2 4 (by decide +kernel), v 65 3 0 (by decide +kernel), v 65 4 0 (by decide +kernel), fun i g => absurd g (Nat.not_lt_zero i), fun i g => absurd g (Nat.not_lt_zero i), ⟨fun _ => v 65 5 (-1) (by decide +kernel), fun g => absurd g (Nat.lt_irrefl 0)⟩, ⟨fun _ => v 65 6 (-1) (by decide +kernel), fun g => absurd g (Nat.lt_irrefl 0)⟩⟩, ⟨?_, v 65 42 0 (by decide +kernel), fun i g => absurd g (Nat.not_lt_zero i), v 65 53 0 (by decide +kernel), fun i g => absurd g (Nat.not_lt_zero i)⟩, v 65 58 0 (by decide +kernel), fun b hb => (by have hb : (none : Option Bok) = some b := hb; cases hb), v 65 11 0 (by decide +kernel), fun i g => absurd g (Nat.not_lt_zero i), v 65 13 (-1) (by decide +kernel), r3 70 (Or.inr rfl)⟩
    intro k i _ g
    obtain ⟨rfl, rfl⟩ := y_rng g
    exact v 77 0 0 (by decide +kernel)
  · exact Nat.le_of_eq (congrArg Int32.toNatClampNeg (y_st0 hl))
theorem y_wp {E : zX} {n d M pc : Nat} {L : zL} {st : List Value} {h : zH} {r : zO × zH} {Q : zO → zH → Prop} (e : zrun zP zCd [] n d M pc L st h = some r) (hq : Q r.1 r.2) : wp E d M pc L st h Q := ⟨r, ⟨n, zx_run n d M pc L st h r e⟩, hq⟩
theorem y_start {E : zX} {Q : Int32 → St → Prop} (hk : ∀ S, LI S 0 → k_law_law_23 E 100 S 0 0 Q) : wp E 100 m_law_law 0 [some (.float 0), none, none, none, none, none, none] [] ([], 0) (QI Q) := by
  obtain ⟨h1, h2, e1, l1, e2, l2, hL, hV, hG⟩ := y_chk_of y_chk_ok
  unfold y_r1 at e1
  unfold y_r2 at e2
  have len : (h2 ++ [y_out]).length ≤ 1000 := by
    rw [List.length_append, l2]
    decide
  have K := hk (y_st (h2 ++ [y_out])) (y_li hV hG len) none none
  rw [y_hp hL len] at K
  refine wp_st (pc' := 4) (L' := [some (.float 0), none, none, none, none, none, none]) (st' := [.ref 0, .ref 0]) (h' := ([y_q11], 0)) 2 (fun Z => rfl) ?_
  refine wp_call (pc' := 7) (rest := [.ref 0]) (d1 := 99) (M' := 140) (La := [some (.ref 0)]) (fun Z => rfl) rfl (y_wp (n := 1000) (r := (.inl none, (h1, 0))) (Q := fun o h => o = .inl none ∧ h = (h1, 0)) e1 ⟨rfl, rfl⟩) ?_
  rintro o h ⟨rfl, rfl⟩
  refine ⟨none, rfl, ?_⟩
  refine wp_st (pc' := 12) (L' := [some (.float 0), some (.ref 0), none, none, none, none, none]) (st' := [.ref h1.length, .ref h1.length]) (h' := (h1 ++ [y_q12], 0)) 3 (fun Z => rfl) ?_
  rw [l1]
  refine wp_call (pc' := 15) (rest := [.ref 65]) (d1 := 99) (M' := 183) (La := [some (.ref 65)]) (fun Z => rfl) rfl (y_wp (n := 1000) (r := (.inl none, (h2, 0))) (Q := fun o h => o = .inl none ∧ h = (h2, 0)) e2 ⟨rfl, rfl⟩) ?_
  rintro o h ⟨rfl, rfl⟩
  refine ⟨none, rfl, ?_⟩
  refine wp_st (pc' := 23) (L' := [some (.float 0), some (.ref 0), some (.ref 65), some (.ref h2.length), some (.int (nI 0)), none, none]) (st' := []) (h' := (h2 ++ [y_out], 0)) 6 (fun Z => rfl) ?_
  rw [l2]
  exact K
def y_zq : zSq → Nat
  | .inl a => a.2
  | .inr o => o.2.length
theorem y_zsz {S : St} {k : Nat} (q : zSq) : zsz (mkc S k q) = y_zq q := by
  unfold mkc
  split
  · rfl
  · rfl
  · rfl
  · show (List.mapIdx _ _).length = _
    rw [List.length_mapIdx]
    rfl
theorem y_zsmL (l : List zSq) (S : St) : zsm (l.mapIdx (mkc S)) = (l.map y_zq).sum := by
  have e : (l.mapIdx (mkc S)).map zsz = l.map y_zq := by
    apply List.ext_getElem?
    intro i
    rw [List.getElem?_map, List.getElem?_mapIdx, List.getElem?_map]
    cases l[i]? with
    | none => rfl
    | some q => exact congrArg some (y_zsz q)
  unfold zsm
  rw [e]
theorem y_cnL (l : List zSq) (S : St) : zcn (HpL l S) = l.length + (S 1000 0).toNatClampNeg := by
  show (l.mapIdx (mkc S)).length + (S 1000 0).toNatClampNeg = l.length + (S 1000 0).toNatClampNeg
  rw [List.length_mapIdx]
theorem y_snL (l : List zSq) (S : St) : zsn (HpL l S) = (l.map y_zq).sum + 6 * (S 1000 0).toNatClampNeg := by
  show zsm (l.mapIdx (mkc S)) + 6 * (S 1000 0).toNatClampNeg = (l.map y_zq).sum + 6 * (S 1000 0).toNatClampNeg
  rw [y_zsmL]
theorem y_shl : zSh.length ≤ 100 := by decide +kernel
theorem y_shs : (zSh.map y_zq).sum ≤ 100000 := by decide +kernel
theorem y_arith {a b c : Nat} (h1 : a ≤ 100) (h2 : b ≤ 100000) (h3 : c ≤ 1024) : a + c ≤ 601024 ∧ b + 6 * c ≤ 7293034 := ⟨by omega, by omega⟩
theorem y_room {S : St} (hI : LI S 1024) : zcn (Hp S) ≤ 601024 ∧ zsn (Hp S) ≤ 7293034 := by
  obtain ⟨G, _, _, _, hn⟩ := hI
  have e := y_arith y_shl y_shs hn
  rw [Hp_def, y_cnL, y_snL]
  exact e
theorem y_pure : z_Pure 3072 := by
  intro L xs hL
  have w := y_start (E := zE L xs) (Q := fun v S' => v = 1 ∧ LI S' 1024) (fun S hI => l_loop (n := L) (f := xs) (TE_zE L xs) (by omega) rfl hL 600 0 0 S (by omega) (by omega) (by omega) hI)
  obtain ⟨⟨o, h⟩, ⟨n, hn⟩, v, S', e1, e2, e3, hI⟩ := w
  have e1 : o = .inl (some (.int v)) := e1
  have e2 : h = Hp S' := e2
  rw [e1, e2, e3] at hn
  exact ⟨n, Hp S', hn, y_room hI⟩
