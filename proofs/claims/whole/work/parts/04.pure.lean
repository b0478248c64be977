/-! SOUNDNESS, piece by piece: what stays within the frame -/
/-- what a value of the small machine is in the machine: ours from the address b on, what lies outside by ex -/
def z_v (b : Nat) (ex : Nat → Value) : Value → Value
  | .ref k => .ref (b + k)
  | .float i => ex i.toNat
  | v => v
theorem z_v_cat {b : Nat} {ex : Nat → Value} (hex : ∀ i, (ex i).category = 1) (v : Value) : (z_v b ex v).category = v.category := by
  cases v <;> first | rfl | exact hex _
section ZP
variable {p : Program} {l : Launch} {e : Env} {R : Room} {s : State} {m : MethodId} {args : Array Value} {below : List Frame} {meth : Method} {c : Code} {H : Heap} {locs : List Loc} {cells slots : Nat} {Q : State → Prop}
variable {cc : ByteArray} {pc : Nat} {ls : Array Slot} {b : Nat} {ex : Nat → Value}
set_option maxHeartbeats 4000000 in
theorem zs_pure (hx : p.tables.exec = Jvm.exec) (hb : c.code = cc) {ins : Instr} (hd : decode cc pc = .ok (ins, zlen ins)) {st : List Value} {K : List Value → zR} {r : zO × zH} (h : zpure ins st K = some r)
    (k : ∀ st1, K st1 = some r → W p l e R s m args below meth c H locs cells slots Q (F0 m (pc + zlen ins) ls (st1.map (z_v b ex)))) : W p l e R s m args below meth c H locs cells slots Q (F0 m pc ls (st.map (z_v b ex))) := by
  unfold zpure at h
  split at h
  · exact lv_iconst hx hb hd rfl (k _ h)
  · exact lv_bipush hx hb hd rfl (k _ h)
  · exact lv_sipush hx hb hd rfl (k _ h)
  · exact lv_lconst hx hb hd rfl (k _ h)
  · split at h
    · exact lv_iadd hx hb hd (k _ h)
    · cases h
  · split at h
    · exact lv_isub hx hb hd (k _ h)
    · cases h
  · split at h
    · exact lv_imul hx hb hd (k _ h)
    · cases h
  · split at h
    · split at h
      · cases h
      · exact lv_idiv hx hb hd ‹_› (k _ h)
    · cases h
  · split at h
    · split at h
      · cases h
      · exact lv_irem hx hb hd ‹_› (k _ h)
    · cases h
  · split at h
    · exact lv_ineg hx hb hd (k _ h)
    · cases h
  · split at h
    · exact lv_iand hx hb hd (k _ h)
    · cases h
  · split at h
    · exact lv_ior hx hb hd (k _ h)
    · cases h
  · split at h
    · exact lv_ixor hx hb hd (k _ h)
    · cases h
  · split at h
    · exact lv_ishl hx hb hd (k _ h)
    · cases h
  · split at h
    · exact lv_ishr hx hb hd (k _ h)
    · cases h
  · split at h
    · exact lv_iushr hx hb hd rfl (k _ h)
    · cases h
  · split at h
    · exact lv_lsub hx hb hd (k _ h)
    · cases h
  · split at h
    · exact lv_lor hx hb hd (k _ h)
    · cases h
  · split at h
    · exact lv_lshl hx hb hd rfl (k _ h)
    · cases h
  · split at h
    · exact W.lcmp hx hb hd (k _ h)
    · cases h
  · split at h
    · exact lv_i2l hx hb hd rfl (k _ h)
    · cases h
  · split at h
    · exact lv_i2b hx hb hd rfl (k _ h)
    · cases h
  · split at h
    · exact lv_i2c hx hb hd rfl (k _ h)
    · cases h
  · split at h
    · exact lv_dup hx hb hd rfl (k _ h)
    · exact lv_dup hx hb hd rfl (k _ h)
    · cases h
  · split at h
    · exact lv_dup2_11 hx hb hd rfl rfl (k _ h)
    · exact lv_dup2_11 hx hb hd rfl rfl (k _ h)
    · cases h
  · split at h
    · exact lv_pop hx hb hd rfl (k _ h)
    · exact lv_pop hx hb hd rfl (k _ h)
    · cases h
  · cases h
/-- the locals -/
def z_ls (b : Nat) (ex : Nat → Value) (nL : Nat) (L : zL) (ls : Array Slot) : Prop := L.length = nL ∧ ls.size = nL ∧ lv_wf ls ∧ ∀ (i : Nat) (v : Value), L[i]? = some (some v) → ls[i]? = some (.val (z_v b ex v))
theorem zs_load (hx : p.tables.exec = Jvm.exec) (hb : c.code = cc) {nL : Nat} {L : zL} (hl : z_ls b ex nL L ls) {ins : Instr} (hd : decode cc pc = .ok (ins, zlen ins)) {st : List Value} {K : Value → zR} {r : zO × zH} (h : zload ins L K = some r) (hex : ∀ i, ex i = .null ∨ ∃ q, ex i = .ref q)
    (k : ∀ v, K v = some r → W p l e R s m args below meth c H locs cells slots Q (F0 m (pc + zlen ins) ls ((v :: st).map (z_v b ex)))) : W p l e R s m args below meth c H locs cells slots Q (F0 m pc ls (st.map (z_v b ex))) := by
  unfold zload at h
  split at h
  · unfold zli at h
    split at h
    · exact lv_iload_n hx hb hd rfl (hl.2.2.2 _ _ ‹_›) (k _ h)
    · cases h
  · unfold zli at h
    split at h
    · exact lv_iload hx hb hd (hl.2.2.2 _ _ ‹_›) (k _ h)
    · cases h
  · unfold zll at h
    split at h
    · exact lv_lload_n hx hb hd rfl (hl.2.2.2 _ _ ‹_›) (k _ h)
    · cases h
  · unfold zll at h
    split at h
    · exact lv_lload hx hb hd (hl.2.2.2 _ _ ‹_›) (k _ h)
    · cases h
  · unfold zla at h
    split at h
    · exact lv_aload_n hx hb hd rfl (hl.2.2.2 _ _ ‹_›) (k _ h)
    · rename_i x hq
      have h1 := hl.2.2.2 _ _ hq
      have h2 := k _ h
      simp only [List.map, z_v] at h1 h2
      rcases hex x.toNat with he | ⟨q, he⟩
      · rw [he] at h1 h2
        exact lv_aload_nN hx hb hd rfl h1 h2
      · rw [he] at h1 h2
        exact lv_aload_n hx hb hd rfl h1 h2
    · cases h
  · unfold zla at h
    split at h
    · exact lv_aload hx hb hd (hl.2.2.2 _ _ ‹_›) (k _ h)
    · rename_i x hq
      have h1 := hl.2.2.2 _ _ hq
      have h2 := k _ h
      simp only [List.map, z_v] at h1 h2
      rcases hex x.toNat with he | ⟨q, he⟩
      · rw [he] at h1 h2
        exact lv_aloadN hx hb hd h1 h2
      · rw [he] at h1 h2
        exact lv_aload hx hb hd h1 h2
    · cases h
  · cases h
/-- the locals as the kit lists them -/
def z_lv (b : Nat) (ex : Nat → Value) (L : zL) : List (Nat × Value) := L.zipIdx.filterMap (fun q => q.1.map (fun v => (q.2, z_v b ex v)))
theorem z_lv_mem {L : zL} {i : Nat} {w : Value} : (i, w) ∈ z_lv b ex L ↔ ∃ v, L[i]? = some (some v) ∧ w = z_v b ex v := by
  unfold z_lv
  constructor
  · intro h
    obtain ⟨q, hq, he⟩ := List.mem_filterMap.mp h
    obtain ⟨o, j⟩ := q
    cases o with
    | none => cases he
    | some v =>
      simp only [Option.map, Option.some.injEq, Prod.mk.injEq] at he
      obtain ⟨rfl, rfl⟩ := he
      have h1 := List.mem_zipIdx_iff_getElem?.mp hq
      exact ⟨v, h1, rfl⟩
  · rintro ⟨v, hv, rfl⟩
    refine List.mem_filterMap.mpr ⟨(some v, i), List.mem_zipIdx_iff_getElem?.mpr hv, rfl⟩
theorem z_ls.has {nL : Nat} {L : zL} (h : z_ls b ex nL L ls) : lv_has ls nL (z_lv b ex L) := by
  refine ⟨h.2.1, h.2.2.1, fun q hq => ?_⟩
  obtain ⟨i, w⟩ := q
  obtain ⟨v, hv, rfl⟩ := z_lv_mem.mp hq
  exact h.2.2.2 i v hv
theorem z_cat2 (hex : ∀ i, ex i = .null ∨ ∃ q, ex i = .ref q) {v : Value} (h : ((z_v b ex v).category == 2) = true) : (∃ x, v = .long x) ∨ ∃ x, v = .double x := by
  cases v with
  | long x => exact Or.inl ⟨x, rfl⟩
  | double x => exact Or.inr ⟨x, rfl⟩
  | float i =>
    rcases hex i.toNat with he | ⟨q, he⟩
    · simp [z_v, he, Value.category] at h
    · simp [z_v, he, Value.category] at h
  | _ => simp [z_v, Value.category] at h
/-- a word of one slot is stored -/
theorem z_st1 (hex : ∀ i, ex i = .null ∨ ∃ q, ex i = .ref q) {nL i : Nat} {L : zL} {w : Value} {ls' : Array Slot} (hl : z_ls b ex nL L ls) (hi : i < L.length) (hg : zlg L i = false) (h : lv_has ls' nL ((i, z_v b ex w) :: (z_lv b ex L).filter (fun q => !(q.1 == i) && !(q.1 + 1 == i && q.2.category == 2)))) : z_ls b ex nL (L.set i (some w)) ls' := by
  refine ⟨by rw [List.length_set]; exact hl.1, h.1, h.2.1, fun j v hj => ?_⟩
  by_cases hji : j = i
  · subst hji
    rw [List.getElem?_set_self hi] at hj
    cases hj
    exact h.2.2 (j, z_v b ex w) List.mem_cons_self
  · rw [List.getElem?_set_ne (Ne.symm hji)] at hj
    refine h.2.2 (j, z_v b ex v) (List.mem_cons_of_mem _ (List.mem_filter.mpr ⟨z_lv_mem.mpr ⟨v, hj, rfl⟩, ?_⟩))
    simp only [Bool.and_eq_true, Bool.not_eq_true']
    refine ⟨by simpa using hji, ?_⟩
    cases hc : (j + 1 == i && (z_v b ex v).category == 2) with
    | false => rfl
    | true =>
      simp only [Bool.and_eq_true] at hc
      have h1 : j + 1 = i := by simpa using hc.1
      subst h1
      exfalso
      rcases z_cat2 hex hc.2 with ⟨x, rfl⟩ | ⟨x, rfl⟩
      · simp [zlg, hj] at hg
      · simp [zlg, hj] at hg
theorem z_st2 (hex : ∀ i, ex i = .null ∨ ∃ q, ex i = .ref q) {nL i : Nat} {L : zL} {x : Int64} {ls' : Array Slot} (hl : z_ls b ex nL L ls) (hi : i + 1 < L.length) (hg : zlg L i = false) (h : lv_has ls' nL ((i, .long x) :: (z_lv b ex L).filter (fun q => !(q.1 == i) && (!(q.1 == i + 1) && !(q.1 + 1 == i && q.2.category == 2))))) : z_ls b ex nL ((L.set i (some (.long x))).set (i + 1) none) ls' := by
  refine ⟨by rw [List.length_set, List.length_set]; exact hl.1, h.1, h.2.1, fun j v hj => ?_⟩
  by_cases hj1 : j = i + 1
  · subst hj1
    rw [List.getElem?_set_self (by rw [List.length_set]; exact hi)] at hj
    cases hj
  rw [List.getElem?_set_ne (Ne.symm hj1)] at hj
  by_cases hji : j = i
  · subst hji
    rw [List.getElem?_set_self (by omega)] at hj
    cases hj
    exact h.2.2 (j, .long x) List.mem_cons_self
  · rw [List.getElem?_set_ne (Ne.symm hji)] at hj
    refine h.2.2 (j, z_v b ex v) (List.mem_cons_of_mem _ (List.mem_filter.mpr ⟨z_lv_mem.mpr ⟨v, hj, rfl⟩, ?_⟩))
    simp only [Bool.and_eq_true, Bool.not_eq_true']
    refine ⟨by simpa using hji, by simpa using hj1, ?_⟩
    cases hc : (j + 1 == i && (z_v b ex v).category == 2) with
    | false => rfl
    | true =>
      simp only [Bool.and_eq_true] at hc
      have h1 : j + 1 = i := by simpa using hc.1
      subst h1
      exfalso
      rcases z_cat2 hex hc.2 with ⟨x, rfl⟩ | ⟨x, rfl⟩
      · simp [zlg, hj] at hg
      · simp [zlg, hj] at hg
theorem zst_spec {L : zL} {i : Nat} {v : Value} {K : zL → zR} {r : zO × zH} (h : zst L i v K = some r) : i < L.length ∧ zlg L i = false ∧ K (L.set i (some v)) = some r := by
  unfold zst at h
  cases h1 : Nat.blt i L.length with
  | false => rw [h1] at h; cases h
  | true =>
    rw [h1] at h
    cases h2 : zlg L i with
    | true => rw [h2] at h; cases h
    | false => rw [h2] at h; exact ⟨by simpa using h1, rfl, h⟩
theorem zst2_spec {L : zL} {i : Nat} {x : Int64} {K : zL → zR} {r : zO × zH} (h : zst2 L i x K = some r) : i + 1 < L.length ∧ zlg L i = false ∧ K ((L.set i (some (.long x))).set (i + 1) none) = some r := by
  unfold zst2 at h
  cases h1 : Nat.blt (i + 1) L.length with
  | false => rw [h1] at h; cases h
  | true =>
    rw [h1] at h
    cases h2 : zlg L i with
    | true => rw [h2] at h; cases h
    | false => rw [h2] at h; exact ⟨by simpa using h1, rfl, h⟩
set_option maxHeartbeats 4000000 in
theorem zs_store (hex : ∀ i, ex i = .null ∨ ∃ q, ex i = .ref q) (hx : p.tables.exec = Jvm.exec) (hb : c.code = cc) {nL : Nat} {L : zL} (hl : z_ls b ex nL L ls) {ins : Instr} (hd : decode cc pc = .ok (ins, zlen ins)) {st : List Value} {K : List Value → zL → zR} {r : zO × zH} (h : zstore ins st L K = some r)
    (k : ∀ st1 L1 ls1, K st1 L1 = some r → z_ls b ex nL L1 ls1 → W p l e R s m args below meth c H locs cells slots Q (F0 m (pc + zlen ins) ls1 (st1.map (z_v b ex)))) : W p l e R s m args below meth c H locs cells slots Q (F0 m pc ls (st.map (z_v b ex))) := by
  unfold zstore at h
  split at h
  · unfold zsi at h
    split at h
    · obtain ⟨h1, h2, h3⟩ := zst_spec h
      exact lv_istore_n hx hb hd rfl hl.has (by rw [← hl.1]; exact h1) rfl (fun ls' hh => k _ _ ls' h3 (z_st1 hex hl h1 h2 hh))
    · cases h
  · unfold zsi at h
    split at h
    · obtain ⟨h1, h2, h3⟩ := zst_spec h
      exact lv_istore hx hb hd hl.has (by rw [← hl.1]; exact h1) rfl (fun ls' hh => k _ _ ls' h3 (z_st1 hex hl h1 h2 hh))
    · cases h
  · unfold zsl at h
    split at h
    · obtain ⟨h1, h2, h3⟩ := zst2_spec h
      exact lv_lstore_n hx hb hd rfl hl.has (by rw [← hl.1]; exact h1) rfl (fun ls' hh => k _ _ ls' h3 (z_st2 hex hl h1 h2 hh))
    · cases h
  · unfold zsl at h
    split at h
    · obtain ⟨h1, h2, h3⟩ := zst2_spec h
      exact lv_lstore hx hb hd hl.has (by rw [← hl.1]; exact h1) rfl (fun ls' hh => k _ _ ls' h3 (z_st2 hex hl h1 h2 hh))
    · cases h
  · unfold zsa at h
    split at h
    · obtain ⟨h1, h2, h3⟩ := zst_spec h
      exact lv_astore_n hx hb hd rfl hl.has (by rw [← hl.1]; exact h1) rfl (fun ls' hh => k _ _ ls' h3 (z_st1 hex hl h1 h2 hh))
    · cases h
  · unfold zsa at h
    split at h
    · obtain ⟨h1, h2, h3⟩ := zst_spec h
      exact lv_astore hx hb hd hl.has (by rw [← hl.1]; exact h1) rfl (fun ls' hh => k _ _ ls' h3 (z_st1 hex hl h1 h2 hh))
    · cases h
  · split at h
    · rename_i i n o x hq
      obtain ⟨h1, h2, h3⟩ := zst_spec h
      obtain ⟨j, hj⟩ := List.getElem?_of_mem (z_lv_mem (b := b) (ex := ex) (L := L) (i := i) (w := .int x) |>.mpr ⟨.int x, hq, rfl⟩)
      exact lv_iinc hx hb hd hl.has hj rfl (by rw [← hl.1]; exact h1) rfl (fun ls' hh => k _ _ ls' h3 (z_st1 hex hl h1 h2 hh))
    · cases h
  · cases h
theorem zsu_spec {L : zL} {i : Nat} {v : Value} {K : zL → zR} {r : zO × zH} (h : zsu L i v K = some r) : i < L.length ∧ K (L.set i (some v)) = some r := by
  unfold zsu at h
  cases h1 : Nat.blt i L.length with
  | false => rw [h1] at h; cases h
  | true => rw [h1] at h; exact ⟨by simpa using h1, h⟩
theorem zlg_no {L : zL} (hc : ∀ (i : Nat) (v : Value), L[i]? = some (some v) → v.category = 1) (i : Nat) : zlg L i = false := by
  cases i with
  | zero => rfl
  | succ j =>
    simp only [zlg]
    split
    · rename_i hx
      have := hc _ _ hx
      simp [Value.category] at this
    · rename_i hx
      have := hc _ _ hx
      simp [Value.category] at this
    · rfl
theorem zc_set {L : zL} (hc : ∀ (i : Nat) (v : Value), L[i]? = some (some v) → v.category = 1) {k : Nat} {w : Value} (hw : w.category = 1) (hk : k < L.length) : ∀ (i : Nat) (v : Value), (L.set k (some w))[i]? = some (some v) → v.category = 1 := by
  intro i v h
  by_cases hik : i = k
  · subst hik
    rw [List.getElem?_set_self hk] at h
    cases h
    exact hw
  · rw [List.getElem?_set_ne (Ne.symm hik)] at h
    exact hc i v h
set_option maxHeartbeats 4000000 in
theorem zs_storeN (hex : ∀ i, ex i = .null ∨ ∃ q, ex i = .ref q) (hx : p.tables.exec = Jvm.exec) (hb : c.code = cc) {nL : Nat} {L : zL} (hl : z_ls b ex nL L ls) (hc : ∀ (i : Nat) (v : Value), L[i]? = some (some v) → v.category = 1) {ins : Instr} (hd : decode cc pc = .ok (ins, zlen ins)) {st : List Value} {K : List Value → zL → zR} {r : zO × zH} (h : zstoreN ins st L K = some r)
    (k : ∀ st1 L1 ls1, K st1 L1 = some r → z_ls b ex nL L1 ls1 → (∀ (i : Nat) (v : Value), L1[i]? = some (some v) → v.category = 1) → W p l e R s m args below meth c H locs cells slots Q (F0 m (pc + zlen ins) ls1 (st1.map (z_v b ex)))) : W p l e R s m args below meth c H locs cells slots Q (F0 m pc ls (st.map (z_v b ex))) := by
  unfold zstoreN at h
  split at h
  · unfold zui at h
    split at h
    · obtain ⟨h1, h3⟩ := zsu_spec h
      exact lv_istore_n hx hb hd rfl hl.has (by rw [← hl.1]; exact h1) rfl (fun ls' hh => k _ _ ls' h3 (z_st1 hex hl h1 (zlg_no hc _) hh) (zc_set hc rfl h1))
    · cases h
  · unfold zui at h
    split at h
    · obtain ⟨h1, h3⟩ := zsu_spec h
      exact lv_istore hx hb hd hl.has (by rw [← hl.1]; exact h1) rfl (fun ls' hh => k _ _ ls' h3 (z_st1 hex hl h1 (zlg_no hc _) hh) (zc_set hc rfl h1))
    · cases h
  · unfold zua at h
    split at h
    · obtain ⟨h1, h3⟩ := zsu_spec h
      exact lv_astore_n hx hb hd rfl hl.has (by rw [← hl.1]; exact h1) rfl (fun ls' hh => k _ _ ls' h3 (z_st1 hex hl h1 (zlg_no hc _) hh) (zc_set hc rfl h1))
    · cases h
  · unfold zua at h
    split at h
    · obtain ⟨h1, h3⟩ := zsu_spec h
      exact lv_astore hx hb hd hl.has (by rw [← hl.1]; exact h1) rfl (fun ls' hh => k _ _ ls' h3 (z_st1 hex hl h1 (zlg_no hc _) hh) (zc_set hc rfl h1))
    · cases h
  · split at h
    · rename_i i n o x hq
      obtain ⟨h1, h3⟩ := zsu_spec h
      obtain ⟨j, hj⟩ := List.getElem?_of_mem (z_lv_mem (b := b) (ex := ex) (L := L) (i := i) (w := .int x) |>.mpr ⟨.int x, hq, rfl⟩)
      exact lv_iinc hx hb hd hl.has hj rfl (by rw [← hl.1]; exact h1) rfl (fun ls' hh => k _ _ ls' h3 (z_st1 hex hl h1 (zlg_no hc _) hh) (zc_set hc rfl h1))
    · cases h
  · cases h
set_option maxHeartbeats 4000000 in
theorem zs_br (hx : p.tables.exec = Jvm.exec) (hb : c.code = cc) {ins : Instr} (hd : decode cc pc = .ok (ins, zlen ins)) {st : List Value} {t f : List Value → zR} {r : zO × zH} {tgt : Nat} (h : zbr ins st t f = some r)
    (ht : ∀ off, (ins = .goto off ∨ (∃ q, ins = .ifCond q off) ∨ ∃ q, ins = .if_icmp q off) → (pc : Int) + off = (tgt : Int))
    (kt : ∀ st1, t st1 = some r → W p l e R s m args below meth c H locs cells slots Q (F0 m tgt ls (st1.map (z_v b ex))))
    (kf : ∀ st1, f st1 = some r → W p l e R s m args below meth c H locs cells slots Q (F0 m (pc + zlen ins) ls (st1.map (z_v b ex)))) : W p l e R s m args below meth c H locs cells slots Q (F0 m pc ls (st.map (z_v b ex))) := by
  unfold zbr at h
  split at h
  · exact lv_goto hx hb hd (ht _ (Or.inl rfl)) (kt _ h)
  · rename_i q off
    have hto := ht off (Or.inr (Or.inl ⟨q, rfl⟩))
    split at h
    · unfold zc1 at h
      split at h
      · exact lv_if_eq hx hb hd hto (fun hq => kt _ (by rw [if_pos hq] at h; exact h)) (fun hq => kf _ (by rw [if_neg hq] at h; exact h))
      · exact lv_if_ne hx hb hd hto (fun hq => kt _ (by rw [if_neg hq] at h; exact h)) (fun hq => kf _ (by rw [if_pos hq] at h; exact h))
      · exact lv_if_lt hx hb hd hto (fun hq => kt _ (by rw [if_pos hq] at h; exact h)) (fun hq => kf _ (by rw [if_neg hq] at h; exact h))
      · exact lv_if_ge hx hb hd hto (fun hq => kt _ (by rw [if_pos hq] at h; exact h)) (fun hq => kf _ (by rw [if_neg hq] at h; exact h))
      · exact lv_if_gt hx hb hd hto (fun hq => kt _ (by rw [if_pos hq] at h; exact h)) (fun hq => kf _ (by rw [if_neg hq] at h; exact h))
      · exact lv_if_le hx hb hd hto (fun hq => kt _ (by rw [if_pos hq] at h; exact h)) (fun hq => kf _ (by rw [if_neg hq] at h; exact h))
    · cases h
  · rename_i q off
    have hto := ht off (Or.inr (Or.inr ⟨q, rfl⟩))
    split at h
    · unfold zc2 at h
      split at h
      · exact lv_icmp_eq hx hb hd hto (fun hq => kt _ (by rw [if_pos hq] at h; exact h)) (fun hq => kf _ (by rw [if_neg hq] at h; exact h))
      · exact lv_icmp_ne hx hb hd hto (fun hq => kt _ (by rw [if_neg hq] at h; exact h)) (fun hq => kf _ (by rw [if_pos hq] at h; exact h))
      · exact lv_icmp_lt hx hb hd hto (fun hq => kt _ (by rw [if_pos hq] at h; exact h)) (fun hq => kf _ (by rw [if_neg hq] at h; exact h))
      · exact lv_icmp_ge hx hb hd hto (fun hq => kt _ (by rw [if_pos hq] at h; exact h)) (fun hq => kf _ (by rw [if_neg hq] at h; exact h))
      · exact lv_icmp_gt hx hb hd hto (fun hq => kt _ (by rw [if_pos hq] at h; exact h)) (fun hq => kf _ (by rw [if_neg hq] at h; exact h))
      · exact lv_icmp_le hx hb hd hto (fun hq => kt _ (by rw [if_pos hq] at h; exact h)) (fun hq => kf _ (by rw [if_neg hq] at h; exact h))
    · cases h
  · cases h
theorem zs_sw (hx : p.tables.exec = Jvm.exec) (hb : c.code = cc) {ins : Instr} {len : Nat} (hd : decode cc pc = .ok (ins, len)) {st : List Value} {K : Nat → List Value → zR} {r : zO × zH} (h : zsw ins pc st K = some r)
    (k : ∀ tgt st1, K tgt st1 = some r → W p l e R s m args below meth c H locs cells slots Q (F0 m tgt ls (st1.map (z_v b ex)))) : W p l e R s m args below meth c H locs cells slots Q (F0 m pc ls (st.map (z_v b ex))) := by
  unfold zsw at h
  split at h
  · split at h
    · split at h
      · rename_i hq
        split at h
        · rename_i hn
          exact lv_tableOut hx hb hd hq (tgt := _) (by rw [Int.toNat_of_nonneg hn]) (k _ _ h)
        · cases h
      · rename_i hq
        split at h
        · split at h
          · rename_i hn
            exact lv_tableIn hx hb hd (fun z => hq (Or.inl z)) (fun z => hq (Or.inr z)) ‹_› (tgt := _) (by rw [Int.toNat_of_nonneg hn]) (k _ _ h)
          · cases h
        · cases h
    · cases h
  · cases h
end ZP
