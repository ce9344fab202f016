/-! SOUNDNESS, VII: calls -/
def so_B (G : so_G) (M : am_M) (U : State) : Prop := so_K G U ∧ so_H G U M U.heap
def so_Q (G : so_G) (mc ms : Nat) (M : am_M) (Q : Option Value → am_M → Prop) : Array Value → State → Outcome → State → Prop := fun _ _ oc t => ∃ (v : Option Value) (M' : am_M), oc = .returned (v.map (so_v G)) ∧ Q v M' ∧ M'.2.2.2.1 = M.2.2.2.1 + mc ∧ M'.2.2.2.2.1 = M.2.2.2.2.1 + ms ∧ so_H G t M' t.heap
def so_ws (k : Nat) : List Jvm.Cond := .code (ml_y k) (ml_b k) (am_mL k) (ml_r k) :: lw_tbg
def so_rm (d k : Nat) : Room := { frames := d, cells := (am_mt k).2.2.2.1, slots := (am_mt k).2.2.2.2, locals := 40 * d }
/-- a relation of calls is sound: each is a contract of the method -/
def so_C (l : Launch) (G : so_G) (d : Nat) (C : am_C) : Prop := ∀ (k : Nat) (as : List Value) (M : am_M) (Q : Option Value → am_M → Prop), k < 258 → C k as M Q → Met l (ml_y k) (so_ws k) (so_rm d k) (va_Pc (as.map (so_v G)) (so_B G M)) (so_Q G (am_mt k).2.2.2.1 (am_mt k).2.2.2.2 M Q) (am_mt k).2.2.2.1 (am_mt k).2.2.2.2 (fun q => G.1 ≤ q)
theorem so_B.blind {G : so_G} {M : am_M} {as : List Value} : FrameBlind (va_Pc as (so_B G M)) := fun a U g mk h => by
  obtain ⟨h1, h2, h3⟩ := h
  exact ⟨h1, so_K.same (u := U) (U := U.calling g mk a) rfl h2, so_H.moved (u := U) (U := U.calling g mk a) (Vm.Alike.refl U.vm) h3⟩
theorem so_B.pre {G : so_G} {M : am_M} {s U : State} {H : Heap} (hK : so_K G s) (hH : so_H G s M H) (hU : U.heap = H) (hW : s.WarmedH U.vm) : so_B G M U := ⟨so_K.warm hW hK, by rw [hU]; exact hH.moved hW.alike⟩
theorem so_mlok {k : Nat} (h : k < 258) : (.code (ml_y k) (ml_b k) (am_mL k) (ml_r k) : Jvm.Cond) ∈ lw_tbg ∧ ((cond (ml_s k) (.static (ml_y k)) (.instanceMethod (ml_y k))) : Jvm.Cond) ∈ lw_tbg ∧ (ml_s k = true ∨ (ml_y k).name = "<init>" ∨ (.selects (ml_y k).cls (ml_y k) (ml_y k) : Jvm.Cond) ∈ lw_tbg) ∧ (.initialized (ml_y k).cls : Jvm.Cond) ∈ lw_tbg ∧ ((ml_y k).cls ≠ "java/lang/invoke/MethodHandle" ∧ (ml_y k).cls ≠ "java/lang/invoke/VarHandle") ∧ plainFor (ml_y k) = true ∧ ((parseMethodDescriptor (ml_y k).desc).map fun d => d.parameters.length + cond (ml_s k) 0 1) = some (am_mt k).1 ∧ (ml_y k).cls = cl_R (ml_o k) ∧ am_mL k ≤ 21 ∧ ((am_mt k).2.1 = match ml_r k with | none => 0 | some .long => 2 | some .int => 1 | some .boolean => 1 | _ => 3) ∧ (ml_s k = true ∨ (am_mt k).2.2.1 = ml_o k + 1) ∧ (ml_s k = true ∨ ml_o k < 10) ∧ am_bz k = decide (ml_r k = some .boolean) := by
  have h0 := ml_ok_all h
  unfold ml_ok at h0
  simp only [Bool.and_eq_true, Bool.or_eq_true, decide_eq_true_eq] at h0
  obtain ⟨⟨⟨⟨⟨⟨⟨⟨⟨⟨⟨⟨⟨⟨a1, a2⟩, a3⟩, a4⟩, a5⟩, a6⟩, a7⟩, a8⟩, a9⟩, a10⟩, a11⟩, a12⟩, a13⟩, a14⟩, -⟩ := h0
  refine ⟨lw_is_in a1, ?_, ?_, lw_is_in a4, ⟨a5, a6⟩, a7, a8, a9, Nat.le_of_ble_eq_true a10, a11, ?_, ?_, a13⟩
  · exact lw_is_in a2
  · rcases a3 with (a3 | a3) | a3
    · exact Or.inl a3
    · exact Or.inr (Or.inl a3)
    · exact Or.inr (Or.inr (lw_is_in a3))
  · rcases a12 with q | q
    · exact Or.inl q
    · exact Or.inr (Nat.eq_of_beq_eq_true q)
  · rcases a14 with q | q
    · exact Or.inl q
    · exact Or.inr (Nat.le_of_ble_eq_true q)
