/-! what is made, as a state: cells of the wanted shapes give the numbers -/
def y_okv : (Nat ⊕ Nat) → Value → Bool
  | .inl 0, .int _ => true
  | .inl 1, .long _ => true
  | .inl 2, .ref a => Nat.blt a 2147483648
  | .inr r, .ref a => Nat.beq a r
  | _, _ => false
def y_okF : List (Nat ⊕ Nat) → List Value → Bool
  | [], [] => true
  | q :: qs, v :: vs => y_okv q v && y_okF qs vs
  | _, _ => false
def y_okc : zSq → zC → Bool
  | .inl (0, n), .inl (0, m, .inl _) => Nat.beq n m
  | .inl (1, n), .inl (1, m, .inr (.inl _)) => Nat.beq n m
  | .inl (2, n), .inl (2, m, .inl _) => Nat.beq n m
  | .inr (c, fs), .inr (c', vs) => Nat.beq c c' && (Nat.ble vs.length 900 && y_okF fs vs)
  | _, _ => false
def y_okL : List zSq → List zC → Bool
  | [], [] => true
  | q :: qs, c :: cs => y_okc q c && y_okL qs cs
  | _, _ => false
def y_rdv : Option Value → Int32
  | some (.int v) => v
  | some (.ref a) => nI a
  | _ => 0
def y_rdh : Option Value → Int32
  | some (.long v) => hiL v
  | _ => 0
def y_rdl : Option Value → Int32
  | some (.long v) => loL v
  | _ => 0
def y_rdf (vs : List Value) (i : Nat) : Int32 := if i < 1000 then y_rdv vs[i]? else if i < 20000 then y_rdh vs[i - 1000]? else y_rdl vs[i - 20000]?
def y_rdg (g : Nat → Int64) (i : Nat) : Int32 := if i % 2 = 0 then hiL (g (i / 2)) else loL (g (i / 2))
def y_rdc : Option zC → Nat → Int32
  | some (.inl (_, _, .inl f)) => f
  | some (.inl (_, _, .inr (.inl g))) => y_rdg g
  | some (.inr (_, vs)) => y_rdf vs
  | _ => fun _ => 0
def y_st (h : List zC) : St := fun k => y_rdc h[k]?
section YS
variable {S : St} {k : Nat}
theorem y_mkf {i : Nat} {q : Nat ⊕ Nat} {v : Value} {vs : List Value} (h : y_okv q v = true) (hs : S k = y_rdf vs) (hv : vs[i]? = some v) (hi : i < 1000) : mkf S k i q = v := by
  unfold y_okv at h
  split at h
  · show Value.int (S k i) = _
    rw [hs]
    unfold y_rdf
    rw [if_pos hi, hv]
    rfl
  · rename_i yy_x
    show Value.long (catL (S k (hf i)) (S k (lf i))) = _
    rw [hs, hf_def, lf_def]
    unfold y_rdf
    rw [if_neg (by omega), if_pos (by omega), if_neg (by omega), if_neg (by omega), Nat.add_sub_cancel_left, Nat.add_sub_cancel_left, hv]
    show Value.long (catL (hiL yy_x) (loL yy_x)) = _
    rw [catL_eq]
  · rename_i yy_a
    show Value.ref (S k i).toNatClampNeg = _
    rw [hs]
    unfold y_rdf
    rw [if_pos hi, hv]
    show Value.ref (nI yy_a).toNatClampNeg = _
    have : yy_a < 2147483648 := Nat.le_of_ble_eq_true h
    rw [nI_clamp (by omega)]
  · have e := Nat.eq_of_beq_eq_true h
    rw [e]
    rfl
  · cases h
theorem y_okF_get : ∀ (fs : List (Nat ⊕ Nat)) (vs : List Value), y_okF fs vs = true → ∀ i : Nat, (fs[i]? = none ∧ vs[i]? = none) ∨ ∃ q v, fs[i]? = some q ∧ vs[i]? = some v ∧ y_okv q v = true
  | [], [], _, i => Or.inl ⟨List.getElem?_nil, List.getElem?_nil⟩
  | [], _ :: _, h, _ => (by have h : false = true := h; cases h)
  | _ :: _, [], h, _ => (by have h : false = true := h; cases h)
  | q :: qs, v :: vs, h, i => by
    have h : (y_okv q v && y_okF qs vs) = true := h
    rw [Bool.and_eq_true] at h
    cases i with
    | zero => exact Or.inr ⟨q, v, rfl, rfl, h.1⟩
    | succ i => 
      rw [List.getElem?_cons_succ, List.getElem?_cons_succ]
      exact y_okF_get qs vs h.2 i
theorem y_mkF {fs : List (Nat ⊕ Nat)} {vs : List Value} (h : y_okF fs vs = true) (hl : vs.length ≤ 900) (hs : S k = y_rdf vs) : fs.mapIdx (mkf S k) = vs := by
  apply List.ext_getElem?
  intro i
  rw [List.getElem?_mapIdx]
  rcases y_okF_get fs vs h i with ⟨h1, h2⟩ | ⟨q, v, h1, h2, h3⟩
  · rw [h1, h2]
    rfl
  · have hi : i < vs.length := by
      rcases Nat.lt_or_ge i vs.length with g | g
      · exact g
      · rw [List.getElem?_eq_none g] at h2
        cases h2
    rw [h1, h2, Option.map_some, y_mkf h3 hs h2 (by omega)]
theorem y_mkc {q : zSq} {c : zC} (h : y_okc q c = true) (hs : S k = y_rdc (some c)) : mkc S k q = c := by
  unfold y_okc at h
  split at h
  · have e := Nat.eq_of_beq_eq_true h
    rw [e]
    show (Sum.inl (0, _, .inl (S k)) : zC) = _
    rw [hs]
    rfl
  · rename_i yy_g
    have e := Nat.eq_of_beq_eq_true h
    rw [e]
    have eg : (fun i => catL (S k (2 * i)) (S k (2 * i + 1))) = yy_g := by
      funext i
      rw [hs]
      show catL (y_rdg yy_g (2 * i)) (y_rdg yy_g (2 * i + 1)) = yy_g i
      unfold y_rdg
      rw [if_pos (by omega), if_neg (by omega), show 2 * i / 2 = i by omega, show (2 * i + 1) / 2 = i by omega, catL_eq]
    show (Sum.inl (1, _, .inr (.inl (fun i => catL (S k (2 * i)) (S k (2 * i + 1))))) : zC) = _
    rw [eg]
  · have e := Nat.eq_of_beq_eq_true h
    rw [e]
    show (Sum.inl (2, _, .inl (S k)) : zC) = _
    rw [hs]
    rfl
  · rename_i yy_fs yy_c yy_vs
    rw [Bool.and_eq_true, Bool.and_eq_true] at h
    obtain ⟨h1, h2, h3⟩ := h
    have e := Nat.eq_of_beq_eq_true h1
    rw [e]
    show (Sum.inr (yy_c, yy_fs.mapIdx (mkf S k)) : zC) = _
    rw [y_mkF h3 (Nat.le_of_ble_eq_true h2) hs]
  · cases h
end YS
theorem y_okL_get : ∀ (l : List zSq) (h : List zC), y_okL l h = true → ∀ i : Nat, (l[i]? = none ∧ h[i]? = none) ∨ ∃ q c, l[i]? = some q ∧ h[i]? = some c ∧ y_okc q c = true
  | [], [], _, i => Or.inl ⟨List.getElem?_nil, List.getElem?_nil⟩
  | [], _ :: _, h, _ => (by have h : false = true := h; cases h)
  | _ :: _, [], h, _ => (by have h : false = true := h; cases h)
  | q :: qs, v :: vs, h, i => by
    have h : (y_okc q v && y_okL qs vs) = true := h
    rw [Bool.and_eq_true] at h
    cases i with
    | zero => exact Or.inr ⟨q, v, rfl, rfl, h.1⟩
    | succ i => 
      rw [List.getElem?_cons_succ, List.getElem?_cons_succ]
      exact y_okL_get qs vs h.2 i
theorem y_st0 {h : List zC} (hl : h.length ≤ 1000) : y_st h 1000 0 = 0 := by
  show y_rdc h[1000]? 0 = 0
  rw [List.getElem?_eq_none hl]
  rfl
theorem y_hp {h : List zC} (ho : y_okL zSh h = true) (hl : h.length ≤ 1000) : Hp (y_st h) = (h, 0) := by
  rw [Hp_def]
  have e1 : (HpL zSh (y_st h)).1 = h := by
    apply List.ext_getElem?
    intro i
    rw [HpL_get]
    rcases y_okL_get zSh h ho i with ⟨h1, h2⟩ | ⟨q, c, h1, h2, h3⟩
    · rw [h1, h2]
      rfl
    · rw [h1, h2, Option.map_some, y_mkc h3 (by show y_rdc h[i]? = _; rw [h2])]
  have e2 : (HpL zSh (y_st h)).2 = 0 := by
    exact congrArg Int32.toNatClampNeg (y_st0 hl)
  exact Prod.ext e1 e2
