/-! SOUNDNESS, I: what of the machine's heap the abstract memory says -/
/-- base, the cells outside, classes and slots, array classes by kind, the heap at the law's start -/
abbrev so_G : Type := Nat × (Nat → Nat) × va_G × (Nat → ClassId) × Heap
def so_ad (G : so_G) (r : Nat) : Nat := if r < 12 then G.2.1 r else G.1 + (r - 12)
def so_v (G : so_G) (v : Value) : Value := match v with
  | .ref r => .ref (so_ad G r)
  | w => w
def so_ty (t : Nat) : FieldType := match t with
  | 0 => .int
  | 1 => .boolean
  | 2 => .long
  | 3 => .array .int
  | 4 => .array .long
  | _ => .object "EightBlocks$State"
def so_q (G : so_G) (o : Option Nat) : Option Nat := o.map (so_ad G)
def so_f (G : so_G) (M : am_M) (r c j : Nat) : Value := cond (Nat.beq (sh_f c j) 1) (va_rf (so_q G (M.2.2.1 r j))) (.int (M.1 r j))
def so_e (G : so_G) (M : am_M) (r : Nat) : va_E := match sh_t r with
  | 0 => .inl (G.2.2.2.1 0, sh_n r, .inl (M.1 r))
  | 1 => .inl (G.2.2.2.1 1, sh_n r, .inl (M.1 r))
  | 2 => .inl (G.2.2.2.1 2, sh_n r, .inr (.inl (M.2.1 r)))
  | 3 => .inl (G.2.2.2.1 3, sh_n r, .inr (.inr (.inr (.inr fun j => so_q G (M.2.2.1 r j)))))
  | 4 => .inl (G.2.2.2.1 4, sh_n r, .inr (.inr (.inr (.inr fun j => so_q G (M.2.2.1 r j)))))
  | 5 => .inl (G.2.2.2.1 5, sh_n r, .inr (.inr (.inr (.inr fun j => so_q G (M.2.2.1 r j)))))
  | t => .inr (t - 10, (List.range (cl_N (t - 10))).map (so_f G M r (t - 10)))
def so_H (G : so_G) (U : State) (M : am_M) (H : Heap) : Prop :=
  H.size = G.1 + (M.2.2.2.1 - 12) ∧ 12 ≤ M.2.2.2.1 ∧ (∀ r, 12 ≤ r → r < M.2.2.2.1 → va_at G.2.2.1 vwCl (so_ad G r, so_e G M r) H) ∧ (∀ q : Nat, q < G.1 → H[q]? = G.2.2.2.2[q]?) ∧ (∀ r, r < 12 → G.2.1 r < G.1) ∧
  (∀ r, r < 2 → ∃ cell : Cell, G.2.2.2.2[G.2.1 r]? = some cell ∧ U.isArrayOf cell .int ∧ cell.vm ≠ .unknown ∧ (am_len M r ≤ cell.slots.size ∧ cell.slots.size.toInt32 = nI (am_len M r)) ∧ am_len M r < 2 ^ 31 ∧ ∀ j, j < am_len M r → cell.slots[j]? = some (.int (M.1 r j)))
def so_len : List Nat := (List.range 10).map fun i => sh_n (2 + i)
def so_byt : List (List Int32) := (List.range 10).map fun i => (List.range (sh_n (2 + i))).map fun j => nI (sh_c (2 + i) j)
/-- the texts, and the JDK's statics -/
def so_T (G : so_G) (U : State) : Prop := (∃ adV : Nat → Nat, vk_S 10 so_len so_byt (fun i => G.2.1 (2 + i)) adV (fun q => G.1 ≤ q) U G.2.2.2.2) ∧ va_Z "java/lang/String" "COMPACT_STRINGS" "Z" (.int 1) (fun q => G.1 ≤ q) U G.2.2.2.2 ∧ va_Zq "jdk/internal/util/Preconditions" "SIOOBE_FORMATTER" "Ljava/util/function/BiFunction;" (fun q => G.1 ≤ q) U G.2.2.2.2
theorem so_T.moved {G : so_G} {u U : State} (ha : u.vm.Alike U.vm) (h : so_T G u) : so_T G U := by
  obtain ⟨⟨adV, h1⟩, h2, h3⟩ := h
  refine ⟨⟨adV, vk_S.moved ha h1⟩, va_Z.moved ha h2, ?_⟩
  rcases h3 with h3 | ⟨t, h3⟩
  · exact Or.inl (va_Z.moved ha h3)
  · exact Or.inr ⟨t, va_Z.moved ha h3⟩
/-- what the tables say that no word says -/
def so_K (G : so_G) (U : State) : Prop :=
  va_K G.2.2.1 vwCl ((List.range 6).map fun t => (G.2.2.2.1 t, so_ty t)) U ∧ va_Z "EightBlocks$Golay" "STARTS" "[I" (.ref (G.2.1 1)) (fun q => G.1 ≤ q) U G.2.2.2.2 ∧
  (∀ C, C = "EightBlocks$State" → va_AO C U) ∧ (∀ ty, ty = FieldType.int ∨ ty = FieldType.long → (Jvm.Cond.arrayOver (.array ty)).before #[] U = true) ∧
  (∀ q ∈ lw_nest, va_Nw q.2 U) ∧ (∀ q ∈ pl_s 7, vk_R "EightBlocks$Tape" q.1 (pl_t q.2.1) (G.2.1 (2 + q.2.1)) U) ∧ so_T G U
theorem so_ad_hi (G : so_G) {r : Nat} (h : 12 ≤ r) : so_ad G r = G.1 + (r - 12) := if_neg (Nat.not_lt.mpr h)
theorem so_ad_lo (G : so_G) {r : Nat} (h : r < 12) : so_ad G r = G.2.1 r := if_pos h
theorem so_ad_inj (G : so_G) {a b : Nat} (ha : 12 ≤ a) (hb : 12 ≤ b) (h : so_ad G a = so_ad G b) : a = b := by
  rw [so_ad_hi G ha, so_ad_hi G hb] at h
  omega
theorem so_len_le : ∀ a : Nat, sh_n a ≤ 4096 := by
  have c : ∀ (b : Bool) (x y : Nat), x ≤ 4096 → y ≤ 4096 → cond b x y ≤ 4096 := fun b x y h1 h2 => by cases b <;> assumption
  intro a
  unfold sh_n
  repeat (first | exact Nat.le_of_ble_eq_true rfl | apply c)
theorem am_len_hi (M : am_M) {a : Nat} (h : 0 < a) : am_len M a = sh_n a := by
  unfold am_len
  cases a with
  | zero => omega
  | succ a => rfl
theorem so_rf (G : so_G) (o : Option Nat) : va_rf (so_q G o) = (match o with | some b => Value.ref (so_ad G b) | none => .null) := by
  cases o <;> rfl
theorem so_AOA {ty : FieldType} {u U : State} (hvm : u.vm.Alike U.vm) (h : (Jvm.Cond.arrayOver (.array ty)).before #[] u = true) : (Jvm.Cond.arrayOver (.array ty)).before #[] U = true := by
  obtain ⟨comp, c, k, h1, h2, h3, h4, h5⟩ := arrayOverA_spec (t := ty) h
  obtain ⟨k', hk', he⟩ := hvm.2.2 _ _ h3
  have hi : (U.vm.classes.findIdx? fun (x : Class) => match x.kind with | .array component _ => component == comp | _ => false) = some c := by
    refine (va_idx_bare U.vm comp).symm.trans ?_
    first | rw [hvm.bare_eq] | rw [← hvm.bare_eq]
    exact (va_idx_bare u.vm comp).trans h2
  have hkind : k'.kind = .array comp (.array ty) := by rw [he]; exact h4
  have f1 : U.vm.findClass (FieldType.array ty).toString = some comp := by rw [hvm.findClass]; exact h1
  have f2 : U.vm.findClass ("[" ++ (FieldType.array ty).toString) = some c := by rw [hvm.findClass]; exact h5
  unfold Jvm.Cond.before Jvm.Cond.holds
  simp only [Jvm.Cond.value]
  rw [f1, Option.bind_some]
  refine (congrArg (fun o : Option Nat => (o.bind (fun c => (U.vm.classes[c]?).map fun (k : Class) => match k.kind with | .array _ ty' => decide (ty' = FieldType.array ty) && decide (U.vm.findClass ("[" ++ (FieldType.array ty).toString) = some c) | _ => false) == some true)) hi).trans ?_
  simp [hk', hkind, f2]
theorem so_K.same {G : so_G} {u U : State} (hv : u.vm = U.vm) (h : so_K G u) : so_K G U := by
  have ha : u.vm.Alike U.vm := by rw [hv]; exact Vm.Alike.refl _
  obtain ⟨h1, h2, h3, h4, h5, h6, h7⟩ := h
  refine ⟨va_K.moved ha h1, va_Z.moved ha h2, fun C hC => va_AO.moved ha (h3 C hC), fun ty ht => ?_, fun q hq => ?_, fun q hq => vk_R.same hv.symm (h6 q hq), h7.moved ha⟩
  · have h9 := h4 ty ht
    simp only [Jvm.Cond.before, Jvm.Cond.holds, Jvm.Cond.value, hv] at h9 ⊢
    exact h9
  · have hm := List.all_eq_true.mp lw_nest_in q hq
    have h8 : q.2.onTables = true := by
      have h7 : ∀ q ∈ lw_nest, q.2.onTables = true := by decide +kernel
      exact h7 q hq
    exact va_Nw.same h8 hv (h5 q hq)
theorem so_K.warm {G : so_G} {s U : State} (hW : s.WarmedH U.vm) (h : so_K G s) : so_K G U := by
  have ha := hW.alike
  obtain ⟨h1, h2, h3, h4, h5, h6, h0⟩ := h
  refine ⟨va_K.moved ha h1, va_Z.moved ha h2, fun C hC => va_AO.moved ha (h3 C hC), fun ty ht => so_AOA ha (h4 ty ht), fun q hq => ?_, fun q hq => vk_R.warm hW (h6 q hq), h0.moved ha⟩
  have h7 : ∀ q ∈ lw_nest, ∃ a i x h, q.2 = Jvm.Cond.methodLinkNest a i x h := by
    have h8 : lw_nest.all (fun q => match q.2 with | .methodLinkNest .. => true | _ => false) = true := by decide +kernel
    intro q hq
    have h9 := List.all_eq_true.mp h8 q hq
    obtain ⟨n, w⟩ := q
    cases w <;> first | exact ⟨_, _, _, _, rfl⟩ | cases h9
  obtain ⟨a, i, x, h, e⟩ := h7 q hq
  have h9 := h5 q hq
  rw [e] at h9 ⊢
  exact va_Nw.warmM hW h9
theorem so_H.moved {G : so_G} {u U : State} {M : am_M} {H : Heap} (hvm : u.vm.Alike U.vm) (h : so_H G u M H) : so_H G U M H := by
  obtain ⟨h1, h2, h3, h4, h5, h6⟩ := h
  refine ⟨h1, h2, h3, h4, h5, fun r hr => ?_⟩
  obtain ⟨cell, g1, g2, g3⟩ := h6 r hr
  exact ⟨cell, g1, State.isArrayOf_alike hvm g2, g3⟩
theorem so_e_congr {G : so_G} {M M' : am_M} {r : Nat} (h1 : M'.1 r = M.1 r) (h2 : M'.2.1 r = M.2.1 r) (h3 : M'.2.2.1 r = M.2.2.1 r) : so_e G M' r = so_e G M r := by
  have hf : so_f G M' r = so_f G M r := by
    funext c j
    unfold so_f
    rw [h1, h3]
  unfold so_e
  rw [h1, h2, h3, hf]
/-- one cell changes -/
theorem so_H.upd {G : so_G} {U : State} {M M' : am_M} {H H' : Heap} {a : Nat} (h : so_H G U M H) (ha : 12 ≤ a) (hz : a < M.2.2.2.1) (hI : ∀ r, r ≠ a → M'.1 r = M.1 r) (hL : ∀ r, r ≠ a → M'.2.1 r = M.2.1 r) (hR : ∀ r, r ≠ a → M'.2.2.1 r = M.2.2.1 r) (hM : M'.2.2.2 = M.2.2.2)
    (hs : H'.size = H.size) (oq : ∀ q, q ≠ so_ad G a → H'[q]? = H[q]?) (hat : va_at G.2.2.1 vwCl (so_ad G a, so_e G M' a) H') : so_H G U M' H' := by
  obtain ⟨h1, h2, h3, h4, h5, h6⟩ := h
  refine ⟨by rw [hs, h1, hM], by rw [hM]; exact h2, fun r hr hrz => ?_, fun q hq => ?_, h5, fun r hr => ?_⟩
  · rw [hM] at hrz
    by_cases e : r = a
    · subst e; exact hat
    · rw [so_e_congr (hI r e) (hL r e) (hR r e)]
      exact (h3 r hr hrz).kept (oq _ (fun q => e (so_ad_inj G hr ha q)))
  · rw [oq q (by rw [so_ad_hi G ha]; omega)]
    exact h4 q hq
  · obtain ⟨cell, g1, g2, g3, g4, g5, g6⟩ := h6 r hr
    have e : r ≠ a := by omega
    have el : am_len M' r = am_len M r := by unfold am_len; rw [hM]
    exact ⟨cell, g1, g2, g3, by rw [el]; exact g4, by rw [el]; exact g5, fun j hj => by rw [hI r e]; exact g6 j (by rw [el] at hj; exact hj)⟩
/-- a cell more -/
theorem so_H.push {G : so_G} {U : State} {M M' : am_M} {H H' : Heap} (h : so_H G U M H) (hI : ∀ r, r < M.2.2.2.1 → M'.1 r = M.1 r) (hL : ∀ r, r < M.2.2.2.1 → M'.2.1 r = M.2.1 r) (hR : ∀ r, r < M.2.2.2.1 → M'.2.2.1 r = M.2.2.1 r) {k : Nat} (hz : M'.2.2.2.1 = M.2.2.2.1 + k) (hn : M'.2.2.2.2.2 = M.2.2.2.2.2)
    (hs : H'.size = H.size + k) (oq : ∀ q, q < H.size → H'[q]? = H[q]?) (hat : ∀ r, M.2.2.2.1 ≤ r → r < M.2.2.2.1 + k → va_at G.2.2.1 vwCl (so_ad G r, so_e G M' r) H') : so_H G U M' H' := by
  obtain ⟨h1, h2, h3, h4, h5, h6⟩ := h
  refine ⟨by rw [hs, h1, hz]; omega, by rw [hz]; omega, fun r hr hrz => ?_, fun q hq => ?_, h5, fun r hr => ?_⟩
  · by_cases e : r < M.2.2.2.1
    · rw [so_e_congr (hI r e) (hL r e) (hR r e)]
      exact (h3 r hr e).kept (oq _ ((h3 r hr e).lt))
    · exact hat r (Nat.not_lt.mp e) (by rw [hz] at hrz; exact hrz)
  · rw [oq q (by rw [h1]; omega)]
    exact h4 q hq
  · obtain ⟨cell, g1, g2, g3, g4, g5, g6⟩ := h6 r hr
    have el : am_len M' r = am_len M r := by unfold am_len; rw [hn]
    exact ⟨cell, g1, g2, g3, by rw [el]; exact g4, by rw [el]; exact g5, fun j hj => by rw [hI r (by omega)]; exact g6 j (by rw [el] at hj; exact hj)⟩
/-! indices -/
theorem so_in {i : Int32} {n : Nat} (h : am_un i < n) (hn : n ≤ 2 ^ 31) : ¬ (i < 0 ∨ n ≤ i.toNatClampNeg) ∧ i.toNatClampNeg = am_un i := by
  have h31 : i.toBitVec.toNat < 2 ^ 31 := Nat.lt_of_lt_of_le h hn
  have hI : i.toInt = (i.toBitVec.toNat : Int) := by
    show i.toBitVec.toInt = _
    rw [BitVec.toInt_eq_toNat_cond, if_pos (by omega)]
  have hc : i.toNatClampNeg = am_un i := by
    show i.toInt.toNat = _
    rw [hI]
    rfl
  refine ⟨fun q => ?_, hc⟩
  rcases q with q | q
  · have h0 : i.toInt < (0 : Int32).toInt := Int32.lt_iff_toInt_lt.mp q
    rw [hI] at h0
    simp at h0
    omega
  · rw [hc] at q
    omega
/-! locals -/
def so_L (G : so_G) (ls : Array Slot) (nL : Nat) (L : am_L) : Prop := ls.size = nL ∧ lv_wf ls ∧ L.length = nL ∧ ∀ (i : Nat) (v : Value), am_nth L i = some v → ls[i]? = some (.val (so_v G v))
theorem am_nth_lt : ∀ {L : am_L} {i : Nat} {v : Value}, am_nth L i = some v → i < L.length
  | [], _, _, h => by cases h
  | _ :: _, 0, _, _ => Nat.succ_pos _
  | _ :: l, i + 1, _, h => Nat.succ_lt_succ (am_nth_lt (L := l) h)
theorem am_set_length : ∀ (L : am_L) (i : Nat) (w : Option Value), (am_set L i w).length = L.length
  | [], _, _ => rfl
  | _ :: _, 0, _ => rfl
  | _ :: l, i + 1, w => congrArg Nat.succ (am_set_length l i w)
theorem am_nth_set : ∀ (L : am_L) (i j : Nat) (w : Option Value), am_nth (am_set L i w) j = if j = i ∧ i < L.length then w else am_nth L j
  | [], i, j, w => by simp [am_set, am_nth]
  | _ :: _, 0, 0, w => by simp [am_set, am_nth]
  | _ :: _, 0, j + 1, w => by simp [am_set, am_nth]
  | _ :: _, i + 1, 0, w => by simp [am_set, am_nth]
  | _ :: l, i + 1, j + 1, w => by simp [am_set, am_nth, am_nth_set l i j w]
def so_pairs (G : so_G) (L : am_L) : List (Nat × Value) := (List.range L.length).filterMap fun i => (am_nth L i).map fun v => (i, so_v G v)
theorem so_pairs_mem {G : so_G} {L : am_L} {q : Nat × Value} : q ∈ so_pairs G L ↔ ∃ v, am_nth L q.1 = some v ∧ q.2 = so_v G v := by
  unfold so_pairs
  rw [List.mem_filterMap]
  constructor
  · rintro ⟨i, -, h⟩
    cases hv : am_nth L i with
    | none => rw [hv] at h; cases h
    | some v => rw [hv] at h; cases h; exact ⟨v, hv, rfl⟩
  · rintro ⟨v, h1, h2⟩
    refine ⟨q.1, List.mem_range.mpr (am_nth_lt h1), ?_⟩
    rw [h1]
    show some (q.1, so_v G v) = some q
    rw [← h2]
theorem so_L.has {G : so_G} {ls : Array Slot} {nL : Nat} {L : am_L} (h : so_L G ls nL L) : lv_has ls nL (so_pairs G L) := by
  obtain ⟨h1, h2, h3, h4⟩ := h
  refine ⟨h1, h2, fun q hq => ?_⟩
  obtain ⟨v, g1, g2⟩ := so_pairs_mem.mp hq
  rw [g2]
  exact h4 _ _ g1
theorem so_v_cat (G : so_G) (v : Value) : (so_v G v).category = v.category := by cases v <;> rfl
theorem am_nl_cat {L : am_L} {j : Nat} {w : Value} (h : am_nl L (j + 1) = true) (hw : am_nth L j = some w) : ¬ w.category = 2 := by
  have h2 : (match am_nth L j with
    | some (.long _) => false
    | some (.double _) => false
    | _ => true) = true := h
  rw [hw] at h2
  cases w <;> first | (cases h2; done) | (intro q; cases q)
theorem so_L.set1 {G : so_G} {ls ls' : Array Slot} {nL : Nat} {L : am_L} {i : Nat} {v : Value} (h : so_L G ls nL L) (hn : am_nl L i = true) (hi : i < nL) (hh : lv_has ls' nL ((i, so_v G v) :: (so_pairs G L).filter (fun q => !(q.1 == i) && !(q.1 + 1 == i && q.2.category == 2)))) : so_L G ls' nL (am_set L i (some v)) := by
  obtain ⟨h1, h2, h3, h4⟩ := h
  refine ⟨hh.1, hh.2.1, by rw [am_set_length]; exact h3, fun j w hw => ?_⟩
  rw [am_nth_set] at hw
  by_cases e : j = i
  · subst e
    rw [if_pos ⟨rfl, by rw [h3]; exact hi⟩] at hw
    cases hw
    exact hh.2.2 (j, _) List.mem_cons_self
  · rw [if_neg (fun q => e q.1)] at hw
    refine hh.2.2 (j, so_v G w) (List.mem_cons_of_mem _ (List.mem_filter.mpr ⟨so_pairs_mem.mpr ⟨w, hw, rfl⟩, ?_⟩))
    simp only [Bool.and_eq_true, Bool.not_eq_true', beq_eq_false_iff_ne, ne_eq, Bool.and_eq_false_iff]
    refine ⟨e, ?_⟩
    by_cases e2 : j + 1 = i
    · right
      subst e2
      rw [so_v_cat]
      exact am_nl_cat hn hw
    · exact Or.inl e2
theorem so_L.set2 {G : so_G} {ls ls' : Array Slot} {nL : Nat} {L : am_L} {i : Nat} {v : Value} (h : so_L G ls nL L) (hn : am_nl L i = true) (hi : i + 1 < nL) (hh : lv_has ls' nL ((i, so_v G v) :: (so_pairs G L).filter (fun q => !(q.1 == i) && (!(q.1 == i + 1) && !(q.1 + 1 == i && q.2.category == 2))))) : so_L G ls' nL (am_set (am_set L i (some v)) (i + 1) none) := by
  obtain ⟨h1, h2, h3, h4⟩ := h
  refine ⟨hh.1, hh.2.1, by rw [am_set_length, am_set_length]; exact h3, fun j w hw => ?_⟩
  rw [am_nth_set, am_nth_set, am_set_length] at hw
  by_cases e1 : j = i + 1
  · rw [if_pos ⟨e1, by omega⟩] at hw
    cases hw
  rw [if_neg (fun q => e1 q.1)] at hw
  by_cases e : j = i
  · subst e
    rw [if_pos ⟨rfl, by omega⟩] at hw
    cases hw
    exact hh.2.2 (j, _) List.mem_cons_self
  · rw [if_neg (fun q => e q.1)] at hw
    refine hh.2.2 (j, so_v G w) (List.mem_cons_of_mem _ (List.mem_filter.mpr ⟨so_pairs_mem.mpr ⟨w, hw, rfl⟩, ?_⟩))
    simp only [Bool.and_eq_true, Bool.not_eq_true', beq_eq_false_iff_ne, ne_eq, Bool.and_eq_false_iff]
    refine ⟨e, e1, ?_⟩
    by_cases e2 : j + 1 = i
    · right
      subst e2
      rw [so_v_cat]
      exact am_nl_cat hn hw
    · exact Or.inl e2
/-! inversions -/
theorem am_pi_inv {st : List Value} {f : Int32 → List Value → Prop} (h : am_pi st f) : ∃ x r, st = .int x :: r ∧ f x r := by
  unfold am_pi at h
  split at h
  · exact ⟨_, _, rfl, h⟩
  · exact h.elim
theorem am_pl_inv {st : List Value} {f : Int64 → List Value → Prop} (h : am_pl st f) : ∃ x r, st = .long x :: r ∧ f x r := by
  unfold am_pl at h
  split at h
  · exact ⟨_, _, rfl, h⟩
  · exact h.elim
theorem am_pr_inv {st : List Value} {f : Nat → List Value → Prop} (h : am_pr st f) : ∃ x r, st = .ref x :: r ∧ f x r := by
  unfold am_pr at h
  split at h
  · exact ⟨_, _, rfl, h⟩
  · exact h.elim
theorem am_g_inv {b : Bool} {p : Prop} (h : am_g b p) : b = true ∧ p := by
  cases b
  · exact h.elim
  · exact ⟨rfl, h⟩
theorem am_p1_inv {st : List Value} {f : Value → List Value → Prop} (h : am_p1 st f) : ∃ v r, st = v :: r ∧ v.category = 1 ∧ f v r := by
  unfold am_p1 at h
  split at h
  · obtain ⟨h1, h2⟩ := am_g_inv h
    exact ⟨_, _, rfl, Nat.eq_of_beq_eq_true h1, h2⟩
  · exact h.elim
theorem am_ob_inv {o : Option Nat} {f : Nat → Prop} (h : am_ob o f) : ∃ b, o = some b ∧ f b := by
  cases o
  · exact h.elim
  · exact ⟨_, rfl, h⟩
theorem am_li_inv {L : am_L} {i : Nat} {f : Int32 → Prop} (h : am_li L i f) : ∃ x, am_nth L i = some (.int x) ∧ f x := by
  unfold am_li at h
  split at h
  · exact ⟨_, by assumption, h⟩
  · exact h.elim
theorem am_ll_inv {L : am_L} {i : Nat} {f : Int64 → Prop} (h : am_ll L i f) : ∃ x, am_nth L i = some (.long x) ∧ f x := by
  unfold am_ll at h
  split at h
  · exact ⟨_, by assumption, h⟩
  · exact h.elim
theorem am_lr_inv {L : am_L} {i : Nat} {f : Nat → Prop} (h : am_lr L i f) : ∃ x, am_nth L i = some (.ref x) ∧ f x := by
  unfold am_lr at h
  split at h
  · exact ⟨_, by assumption, h⟩
  · exact h.elim
theorem am_pop_inv {f : List Value → List Value → Prop} : ∀ (n : Nat) {st acc : List Value}, am_pop n st acc f → ∃ as r, st = as.reverse ++ r ∧ as.length = n ∧ f (as ++ acc) r
  | 0, st, acc, h => ⟨[], st, rfl, rfl, h⟩
  | n + 1, v :: st, acc, h => by
    obtain ⟨as, r, e, hl, hf⟩ := am_pop_inv n (st := st) (acc := v :: acc) h
    refine ⟨as ++ [v], r, ?_, by simp [hl], by simpa using hf⟩
    rw [e]
    simp
  | _ + 1, [], _, h => h.elim
theorem am_bb {a b : Bool} (h : (a && b) = true) : a = true ∧ b = true := (Bool.and_eq_true _ _).mp h
theorem am_cs_eq (G : so_G) : ∀ r : List Value, ((r.map (so_v G)).map fun v => v.category).sum = am_cs r
  | [] => rfl
  | v :: r => by
    rw [List.map_cons, List.map_cons, List.sum_cons, am_cs_eq G r, so_v_cat]
    rfl
