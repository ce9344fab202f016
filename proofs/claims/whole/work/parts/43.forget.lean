/-! FORGETTING WHAT A LOCAL HOLDS -/
def am_wd (o : Option Value) : Bool := match o with
  | some (.long _) => true
  | some (.double _) => true
  | _ => false
/-- L says no more than L2 -/
def am_le (L L2 : am_L) : Prop := L.length = L2.length ∧ ∀ j, am_nth L j = am_nth L2 j ∨ (am_nth L j = none ∧ am_wd (am_nth L2 j) = false)
theorem am_le.some {L L2 : am_L} (h : am_le L L2) {i : Nat} {v : Value} (hv : am_nth L i = some v) : am_nth L2 i = some v := by
  rcases h.2 i with q | q
  · rw [← q, hv]
  · rw [q.1] at hv
    cases hv
theorem le_li {L L2 : am_L} (hle : am_le L L2) {i : Nat} {f g : Int32 → Prop} (h : ∀ x, f x → g x) : am_li L i f → am_li L2 i g := by
  intro q
  unfold am_li at q ⊢
  split at q
  · rename_i x hx
    rw [hle.some hx]
    exact h _ q
  · exact q.elim
theorem le_ll {L L2 : am_L} (hle : am_le L L2) {i : Nat} {f g : Int64 → Prop} (h : ∀ x, f x → g x) : am_ll L i f → am_ll L2 i g := by
  intro q
  unfold am_ll at q ⊢
  split at q
  · rename_i x hx
    rw [hle.some hx]
    exact h _ q
  · exact q.elim
theorem le_lr {L L2 : am_L} (hle : am_le L L2) {i : Nat} {f g : Nat → Prop} (h : ∀ x, f x → g x) : am_lr L i f → am_lr L2 i g := by
  intro q
  unfold am_lr at q ⊢
  split at q
  · rename_i x hx
    rw [hle.some hx]
    exact h _ q
  · exact q.elim
theorem am_nl_wd (L : am_L) (j : Nat) : am_nl L (j + 1) = !am_wd (am_nth L j) := by
  unfold am_nl am_wd
  dsimp only
  generalize am_nth L j = o
  cases o with
  | none => rfl
  | some v => cases v <;> rfl
theorem le_nl {L L2 : am_L} (hle : am_le L L2) {i : Nat} (h : am_nl L i = true) : am_nl L2 i = true := by
  cases i with
  | zero => rfl
  | succ j =>
    rw [am_nl_wd] at h ⊢
    rcases hle.2 j with q | q
    · rw [← q]
      exact h
    · rw [q.2]
      rfl
theorem le_g1 {L L2 : am_L} (hle : am_le L L2) {i : Nat} {p q : Prop} (h : p → q) : am_g (am_nl L i && Nat.ble (i + 1) L.length) p → am_g (am_nl L2 i && Nat.ble (i + 1) L2.length) q := by
  intro r
  obtain ⟨r1, r2⟩ := am_g_inv r
  obtain ⟨r3, r4⟩ := am_bb r1
  refine am_gi (am_ba (le_nl hle r3) ?_) (h r2)
  rw [← hle.1]
  exact r4
theorem le_g2 {L L2 : am_L} (hle : am_le L L2) {i : Nat} {p q : Prop} (h : p → q) : am_g (am_nl L i && Nat.ble (i + 2) L.length) p → am_g (am_nl L2 i && Nat.ble (i + 2) L2.length) q := by
  intro r
  obtain ⟨r1, r2⟩ := am_g_inv r
  obtain ⟨r3, r4⟩ := am_bb r1
  refine am_gi (am_ba (le_nl hle r3) ?_) (h r2)
  rw [← hle.1]
  exact r4
theorem fg_set_len : ∀ (L : am_L) (i : Nat) (w : Option Value), (am_set L i w).length = L.length
  | [], _, _ => rfl
  | _ :: _, 0, _ => rfl
  | _ :: l, n + 1, w => congrArg (· + 1) (fg_set_len l n w)
theorem fg_set : ∀ (L L2 : am_L) (i : Nat) (w : Option Value) (j : Nat), L.length = L2.length → (am_nth L j = am_nth L2 j ∨ (am_nth L j = none ∧ am_wd (am_nth L2 j) = false)) → (am_nth (am_set L i w) j = am_nth (am_set L2 i w) j ∨ (am_nth (am_set L i w) j = none ∧ am_wd (am_nth (am_set L2 i w) j) = false))
  | [], [], _, _, _, _, _ => Or.inl rfl
  | [], _ :: _, _, _, _, h, _ => by cases h
  | _ :: _, [], _, _, _, h, _ => by cases h
  | _ :: _, _ :: _, 0, _, 0, _, _ => Or.inl rfl
  | _ :: _, _ :: _, 0, _, _ + 1, _, h => h
  | _ :: _, _ :: _, _ + 1, _, 0, _, h => h
  | _ :: l, _ :: l2, i + 1, w, j + 1, h0, h => fg_set l l2 i w j (Nat.succ.inj h0) h
theorem am_le.set {L L2 : am_L} (h : am_le L L2) (i : Nat) (w : Option Value) : am_le (am_set L i w) (am_set L2 i w) := ⟨by rw [fg_set_len, fg_set_len, h.1], fun j => fg_set L L2 i w j h.1 (h.2 j)⟩
set_option maxHeartbeats 4000000 in
theorem am_one_fg {mt : Nat → Nat × Nat × Nat × Nat × Nat} {C C' : am_C} {zm sm : Nat} {Rt Rt' : Option Value → am_M → Prop} {P P' : am_K} (hC : am_CM C C') (hR : ∀ v M, Rt v M → Rt' v M) (hP : ∀ pc L L2 st M, am_le L L2 → P pc L st M → P' pc L2 st M) {ins : Instr} {ln pc : Nat} {L L2 : am_L} (hle : am_le L L2) {st : List Value} {M : am_M} :
    am_one mt C zm sm Rt ins ln pc L st M P → am_one mt C' zm sm Rt' ins ln pc L2 st M P' := by
  cases ins
  case invokeinterface i c =>
    match i with
    | 0 => exact am_pi_mono fun _ _ => am_pi_mono fun _ _ => am_g_mono (hP _ _ _ _ _ hle)
    | 1 => exact am_pi_mono fun _ _ => am_pi_mono fun _ _ => am_g_mono (hP _ _ _ _ _ hle)
    | 2 => exact am_pr_mono fun _ _ => am_g_mono (hP _ _ _ _ _ hle)
    | 3 => exact am_pi_mono fun _ _ => am_pr_mono fun _ _ => am_g_mono (am_imp_mono (hP _ _ _ _ _ hle))
    | 4 => exact am_pi_mono fun _ _ => am_pi_mono fun _ _ => am_pr_mono fun _ _ => am_pi_mono fun _ _ => am_pr_mono fun _ _ => am_g_mono (am_imp_mono (hP _ _ _ _ _ hle))
    | _ + 5 => exact id
  case ifCond c t => exact am_pi_mono fun _ _ => by cases c <;> exact am_br_mono (hP _ _ _ _ _ hle) (hP _ _ _ _ _ hle)
  case if_icmp c t => exact am_pi_mono fun _ _ => am_pi_mono fun _ _ => by cases c <;> exact am_br_mono (hP _ _ _ _ _ hle) (hP _ _ _ _ _ hle)
  case invokestatic k => exact am_pop_mono (fun _ _ => am_g_mono (hC _ _ _ _ _ fun _ _ => am_aft_mono fun _ => hP _ _ _ _ _ hle)) _ _ _
  case invokevirtual k => exact am_pop_mono (fun _ _ => am_pr_mono fun _ _ => am_g_mono (hC _ _ _ _ _ fun _ _ => am_aft_mono fun _ => hP _ _ _ _ _ hle)) _ _ _
  case invokespecial k => exact am_pop_mono (fun _ _ => am_pr_mono fun _ _ => am_g_mono (am_imp_mono (hC _ _ _ _ _ fun _ _ => am_aft_mono fun _ => hP _ _ _ _ _ hle))) _ _ _
  case tableswitch d lo hi ts => exact am_pi_mono fun _ _ => am_sw_mono (fun _ => hP _ _ _ _ _ hle) _ _
  case lookupswitch d ps => exact am_pi_mono fun _ _ => am_lw_mono (fun _ => hP _ _ _ _ _ hle) _
  case iload i => exact le_li hle fun _ => hP _ _ _ _ _ hle
  case lload i => exact le_ll hle fun _ => hP _ _ _ _ _ hle
  case aload i => exact le_lr hle fun _ => hP _ _ _ _ _ hle
  case istore i => exact am_pi_mono fun _ _ => le_g1 hle (hP _ _ _ _ _ (hle.set _ _))
  case astore i => exact am_pr_mono fun _ _ => le_g1 hle (hP _ _ _ _ _ (hle.set _ _))
  case lstore i => exact am_pl_mono fun _ _ => le_g2 hle (hP _ _ _ _ _ ((hle.set _ _).set _ _))
  case iinc i k => exact le_li hle fun _ => le_g1 hle (hP _ _ _ _ _ (hle.set _ _))
  all_goals first
    | exact id
    | exact hP _ _ _ _ _ hle
    | exact am_pi_mono fun _ _ => hP _ _ _ _ _ hle
    | exact am_pl_mono fun _ _ => hP _ _ _ _ _ hle
    | exact am_pi_mono fun _ _ => am_pi_mono fun _ _ => hP _ _ _ _ _ hle
    | exact am_pl_mono fun _ _ => am_pl_mono fun _ _ => hP _ _ _ _ _ hle
    | exact am_li_mono fun _ => hP _ _ _ _ _ hle
    | exact am_ll_mono fun _ => hP _ _ _ _ _ hle
    | exact am_lr_mono fun _ => hP _ _ _ _ _ hle
    | exact am_pi_mono fun _ _ => am_g_mono (hP _ _ _ _ _ hle)
    | exact am_pr_mono fun _ _ => am_g_mono (hP _ _ _ _ _ hle)
    | exact am_pl_mono fun _ _ => am_g_mono (hP _ _ _ _ _ hle)
    | exact am_li_mono fun _ => am_g_mono (hP _ _ _ _ _ hle)
    | exact am_pi_mono fun _ _ => am_g_mono (hR _ _)
    | exact am_pl_mono fun _ _ => am_g_mono (hR _ _)
    | exact am_pr_mono fun _ _ => am_g_mono (hR _ _)
    | exact am_g_mono (hR _ _)
    | exact am_p1_mono fun _ _ => hP _ _ _ _ _ hle
    | exact am_p1_mono fun _ _ => am_p1_mono fun _ _ => hP _ _ _ _ _ hle
    | exact am_pi_mono fun _ _ => am_pi_mono fun _ _ => am_g_mono (hP _ _ _ _ _ hle)
    | exact am_pl_mono fun _ _ => am_pl_mono fun _ _ => am_g_mono (hP _ _ _ _ _ hle)
    | exact am_pi_mono fun _ _ => am_pl_mono fun _ _ => hP _ _ _ _ _ hle
    | exact am_pi_mono fun _ _ => am_pr_mono fun _ _ => am_g_mono (am_imp_mono (hP _ _ _ _ _ hle))
    | exact am_pi_mono fun _ _ => am_pr_mono fun _ _ => am_g_mono (am_imp_mono (am_ob_mono fun _ => hP _ _ _ _ _ hle))
    | exact am_pi_mono fun _ _ => am_pi_mono fun _ _ => am_pr_mono fun _ _ => am_g_mono (am_imp_mono (hP _ _ _ _ _ hle))
    | exact am_pl_mono fun _ _ => am_pi_mono fun _ _ => am_pr_mono fun _ _ => am_g_mono (am_imp_mono (hP _ _ _ _ _ hle))
    | exact am_pr_mono fun _ _ => am_pi_mono fun _ _ => am_pr_mono fun _ _ => am_g_mono (am_imp_mono (hP _ _ _ _ _ hle))
    | exact am_pr_mono fun _ _ => am_g_mono (am_cond_mono (am_ob_mono fun _ => hP _ _ _ _ _ hle) (hP _ _ _ _ _ hle))
    | exact am_cond_mono (am_pr_mono fun _ _ => am_pr_mono fun _ _ => am_g_mono (hP _ _ _ _ _ hle)) (am_pi_mono fun _ _ => am_pr_mono fun _ _ => am_g_mono (hP _ _ _ _ _ hle))
    | exact am_g_mono (am_imp_mono (hP _ _ _ _ _ hle))
    | exact am_pi_mono fun _ _ => am_g_mono (am_imp_mono (hP _ _ _ _ _ hle))
    | exact am_pi_mono fun _ _ => am_pi_mono fun _ _ => am_g_mono (am_imp_mono (am_imp_mono (hP _ _ _ _ _ hle)))
theorem am_WP_fg {mt : Nat → Nat × Nat × Nat × Nat × Nat} {C : am_C} {T : am_T} {zm sm : Nat} {Rt : Option Value → am_M → Prop} (hC : am_CM C C) {pc : Nat} {L L2 : am_L} {st : List Value} {M : am_M} (hle : am_le L L2) (h : am_WP mt C T zm sm Rt pc L st M) : am_WP mt C T zm sm Rt pc L2 st M := by
  intro X hX
  refine h (fun pc L st M => ∀ L2, am_le L L2 → X pc L2 st M) ?_ L2 hle
  intro pc L st M hF L3 hle3
  refine hX pc L3 st M ?_
  unfold am_F at hF ⊢
  split at hF
  · exact am_one_fg hC (fun _ _ => id) (fun _ _ _ _ _ hl k => k _ hl) hle3 hF
  · exact hF.elim
/-- what a local holds may be forgotten (not a long) -/
theorem am_fg {d k : Nat} {M0 : am_M} {Q : Option Value → am_M → Prop} {pc : Nat} {L L2 : am_L} {st : List Value} {M : am_M} (hle : am_le L L2) (h : am_St d k M0 Q pc L st M) : am_St d k M0 Q pc L2 st M := am_WP_fg (am_AC_mono d) hle h
/-- am_le by places: true in the list says that the place is forgotten -/
theorem le_nil : am_le [] [] := ⟨rfl, fun _ => Or.inl rfl⟩
theorem le_same {L L2 : am_L} (v : Option Value) (h : am_le L L2) : am_le (v :: L) (v :: L2) := ⟨congrArg (· + 1) h.1, fun j => match j with
  | 0 => Or.inl rfl
  | j + 1 => h.2 j⟩
theorem le_int {L L2 : am_L} (x : Int32) (h : am_le L L2) : am_le (none :: L) (some (.int x) :: L2) := ⟨congrArg (· + 1) h.1, fun j => match j with
  | 0 => Or.inr ⟨rfl, rfl⟩
  | j + 1 => h.2 j⟩
theorem le_ref {L L2 : am_L} (x : Nat) (h : am_le L L2) : am_le (none :: L) (some (.ref x) :: L2) := ⟨congrArg (· + 1) h.1, fun j => match j with
  | 0 => Or.inr ⟨rfl, rfl⟩
  | j + 1 => h.2 j⟩
