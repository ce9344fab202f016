/-! THE ABSTRACT MACHINE'S LAWS -/
theorem am_pi_mono {st : List Value} {f g : Int32 → List Value → Prop} (h : ∀ x r, f x r → g x r) : am_pi st f → am_pi st g := by
  unfold am_pi
  split
  · exact h _ _
  · exact id
theorem am_pl_mono {st : List Value} {f g : Int64 → List Value → Prop} (h : ∀ x r, f x r → g x r) : am_pl st f → am_pl st g := by
  unfold am_pl
  split
  · exact h _ _
  · exact id
theorem am_pr_mono {st : List Value} {f g : Nat → List Value → Prop} (h : ∀ x r, f x r → g x r) : am_pr st f → am_pr st g := by
  unfold am_pr
  split
  · exact h _ _
  · exact id
theorem am_g_mono {b : Bool} {p q : Prop} (h : p → q) : am_g b p → am_g b q := by
  cases b
  · exact id
  · exact h
theorem am_p1_mono {st : List Value} {f g : Value → List Value → Prop} (h : ∀ x r, f x r → g x r) : am_p1 st f → am_p1 st g := by
  unfold am_p1
  split
  · exact am_g_mono (h _ _)
  · exact id
theorem am_ob_mono {o : Option Nat} {f g : Nat → Prop} (h : ∀ x, f x → g x) : am_ob o f → am_ob o g := by
  cases o
  · exact id
  · exact h _
theorem am_br_mono {A p q p' q' : Prop} (h1 : p → p') (h2 : q → q') : am_br A p q → am_br A p' q' := fun h => ⟨fun a => h1 (h.1 a), fun a => h2 (h.2 a)⟩
theorem am_li_mono {L : am_L} {i : Nat} {f g : Int32 → Prop} (h : ∀ x, f x → g x) : am_li L i f → am_li L i g := by
  unfold am_li
  split
  · exact h _
  · exact id
theorem am_ll_mono {L : am_L} {i : Nat} {f g : Int64 → Prop} (h : ∀ x, f x → g x) : am_ll L i f → am_ll L i g := by
  unfold am_ll
  split
  · exact h _
  · exact id
theorem am_lr_mono {L : am_L} {i : Nat} {f g : Nat → Prop} (h : ∀ x, f x → g x) : am_lr L i f → am_lr L i g := by
  unfold am_lr
  split
  · exact h _
  · exact id
theorem am_sw_mono {x : Int32} {f g : Nat → Prop} {d : Nat} (h : ∀ t, f t → g t) : ∀ (ts : List Int) (k : Int), am_sw x k ts f d → am_sw x k ts g d
  | [], _ => h _
  | _ :: r, k => fun q => ⟨fun a => h _ (q.1 a), fun a => am_sw_mono h r (k + 1) (q.2 a)⟩
theorem am_lw_mono {x : Int32} {f g : Nat → Prop} {d : Nat} (h : ∀ t, f t → g t) : ∀ (ts : List (Int × Int)), am_lw x ts f d → am_lw x ts g d
  | [] => h _
  | _ :: r => fun q => ⟨fun a => h _ (q.1 a), fun a => am_lw_mono h r (q.2 a)⟩
theorem am_pop_mono {f g : List Value → List Value → Prop} (h : ∀ a r, f a r → g a r) : ∀ (n : Nat) (st acc : List Value), am_pop n st acc f → am_pop n st acc g
  | 0, _, _ => h _ _
  | n + 1, v :: st, acc => am_pop_mono h n st (v :: acc)
  | _ + 1, [], _ => id
theorem am_aft_mono {rk : Nat} {v : Option Value} {f g : List Value → Prop} (h : ∀ a, f a → g a) : am_aft rk v f → am_aft rk v g := by
  unfold am_aft
  split
  · exact And.imp id (h _)
  · exact fun ⟨x, a, b⟩ => ⟨x, a, h _ b⟩
  · exact fun ⟨x, a, b⟩ => ⟨x, a, h _ b⟩
  · exact fun ⟨x, a, b⟩ => ⟨x, a, h _ b⟩
theorem am_cond_mono {b : Bool} {p q p' q' : Prop} (h : p → p') (h2 : q → q') : cond b p q → cond b p' q' := by
  cases b
  · exact h2
  · exact h
theorem am_imp_mono {p q q' : Prop} (h : q → q') : (p ∧ q) → (p ∧ q') := And.imp id h
def am_CM (C C' : am_C) : Prop := ∀ k as M (Q Q' : Option Value → am_M → Prop), (∀ v M, Q v M → Q' v M) → C k as M Q → C' k as M Q'
set_option maxHeartbeats 4000000 in
theorem am_one_mono {mt : Nat → Nat × Nat × Nat × Nat × Nat} {C C' : am_C} {zm sm : Nat} {Rt Rt' : Option Value → am_M → Prop} {P P' : am_K} (hC : am_CM C C') (hR : ∀ v M, Rt v M → Rt' v M) (hP : ∀ pc L st M, P pc L st M → P' pc L st M) {ins : Instr} {ln pc : Nat} {L : am_L} {st : List Value} {M : am_M} :
    am_one mt C zm sm Rt ins ln pc L st M P → am_one mt C' zm sm Rt' ins ln pc L st M P' := by
  cases ins
  case invokeinterface i c =>
    match i with
    | 0 => exact am_pi_mono fun _ _ => am_pi_mono fun _ _ => am_g_mono (hP _ _ _ _)
    | 1 => exact am_pi_mono fun _ _ => am_pi_mono fun _ _ => am_g_mono (hP _ _ _ _)
    | 2 => exact am_pr_mono fun _ _ => am_g_mono (hP _ _ _ _)
    | 3 => exact am_pi_mono fun _ _ => am_pr_mono fun _ _ => am_g_mono (am_imp_mono (hP _ _ _ _))
    | 4 => exact am_pi_mono fun _ _ => am_pi_mono fun _ _ => am_pr_mono fun _ _ => am_pi_mono fun _ _ => am_pr_mono fun _ _ => am_g_mono (am_imp_mono (hP _ _ _ _))
    | _ + 5 => exact id
  case ifCond c t => exact am_pi_mono fun _ _ => by cases c <;> exact am_br_mono (hP _ _ _ _) (hP _ _ _ _)
  case if_icmp c t => exact am_pi_mono fun _ _ => am_pi_mono fun _ _ => by cases c <;> exact am_br_mono (hP _ _ _ _) (hP _ _ _ _)
  case invokestatic k => exact am_pop_mono (fun _ _ => am_g_mono (hC _ _ _ _ _ fun _ _ => am_aft_mono fun _ => hP _ _ _ _)) _ _ _
  case invokevirtual k => exact am_pop_mono (fun _ _ => am_pr_mono fun _ _ => am_g_mono (hC _ _ _ _ _ fun _ _ => am_aft_mono fun _ => hP _ _ _ _)) _ _ _
  case invokespecial k => exact am_pop_mono (fun _ _ => am_pr_mono fun _ _ => am_g_mono (am_imp_mono (hC _ _ _ _ _ fun _ _ => am_aft_mono fun _ => hP _ _ _ _))) _ _ _
  case tableswitch d lo hi ts => exact am_pi_mono fun _ _ => am_sw_mono (fun _ => hP _ _ _ _) _ _
  case lookupswitch d ps => exact am_pi_mono fun _ _ => am_lw_mono (fun _ => hP _ _ _ _) _
  all_goals first
    | exact id
    | exact hP _ _ _ _
    | exact am_pi_mono fun _ _ => hP _ _ _ _
    | exact am_pl_mono fun _ _ => hP _ _ _ _
    | exact am_pi_mono fun _ _ => am_pi_mono fun _ _ => hP _ _ _ _
    | exact am_pl_mono fun _ _ => am_pl_mono fun _ _ => hP _ _ _ _
    | exact am_li_mono fun _ => hP _ _ _ _
    | exact am_ll_mono fun _ => hP _ _ _ _
    | exact am_lr_mono fun _ => hP _ _ _ _
    | exact am_pi_mono fun _ _ => am_g_mono (hP _ _ _ _)
    | exact am_pr_mono fun _ _ => am_g_mono (hP _ _ _ _)
    | exact am_pl_mono fun _ _ => am_g_mono (hP _ _ _ _)
    | exact am_li_mono fun _ => am_g_mono (hP _ _ _ _)
    | exact am_pi_mono fun _ _ => am_g_mono (hR _ _)
    | exact am_pl_mono fun _ _ => am_g_mono (hR _ _)
    | exact am_pr_mono fun _ _ => am_g_mono (hR _ _)
    | exact am_g_mono (hR _ _)
    | exact am_p1_mono fun _ _ => hP _ _ _ _
    | exact am_p1_mono fun _ _ => am_p1_mono fun _ _ => hP _ _ _ _
    | exact am_pi_mono fun _ _ => am_pi_mono fun _ _ => am_g_mono (hP _ _ _ _)
    | exact am_pl_mono fun _ _ => am_pl_mono fun _ _ => am_g_mono (hP _ _ _ _)
    | exact am_pi_mono fun _ _ => am_pl_mono fun _ _ => hP _ _ _ _
    | exact am_pi_mono fun _ _ => am_pr_mono fun _ _ => am_g_mono (am_imp_mono (hP _ _ _ _))
    | exact am_pi_mono fun _ _ => am_pr_mono fun _ _ => am_g_mono (am_imp_mono (am_ob_mono fun _ => hP _ _ _ _))
    | exact am_pi_mono fun _ _ => am_pi_mono fun _ _ => am_pr_mono fun _ _ => am_g_mono (am_imp_mono (hP _ _ _ _))
    | exact am_pl_mono fun _ _ => am_pi_mono fun _ _ => am_pr_mono fun _ _ => am_g_mono (am_imp_mono (hP _ _ _ _))
    | exact am_pr_mono fun _ _ => am_pi_mono fun _ _ => am_pr_mono fun _ _ => am_g_mono (am_imp_mono (hP _ _ _ _))
    | exact am_pr_mono fun _ _ => am_g_mono (am_cond_mono (am_ob_mono fun _ => hP _ _ _ _) (hP _ _ _ _))
    | exact am_cond_mono (am_pr_mono fun _ _ => am_pr_mono fun _ _ => am_g_mono (hP _ _ _ _)) (am_pi_mono fun _ _ => am_pr_mono fun _ _ => am_g_mono (hP _ _ _ _))
    | exact am_g_mono (am_imp_mono (hP _ _ _ _))
    | exact am_pi_mono fun _ _ => am_g_mono (am_imp_mono (hP _ _ _ _))
    | exact am_pi_mono fun _ _ => am_pi_mono fun _ _ => am_g_mono (am_imp_mono (am_imp_mono (hP _ _ _ _)))
theorem am_F_mono {mt : Nat → Nat × Nat × Nat × Nat × Nat} {C C' : am_C} {T : am_T} {zm sm : Nat} {Rt Rt' : Option Value → am_M → Prop} {P P' : am_K} (hC : am_CM C C') (hR : ∀ v M, Rt v M → Rt' v M) (hP : ∀ pc L st M, P pc L st M → P' pc L st M) {pc : Nat} {L : am_L} {st : List Value} {M : am_M} : am_F mt C T zm sm Rt P pc L st M → am_F mt C' T zm sm Rt' P' pc L st M := by
  unfold am_F
  split
  · exact am_one_mono hC hR hP
  · exact id
theorem am_WP_mono {mt : Nat → Nat × Nat × Nat × Nat × Nat} {C C' : am_C} {T : am_T} {zm sm : Nat} {Rt Rt' : Option Value → am_M → Prop} (hC : am_CM C C') (hR : ∀ v M, Rt v M → Rt' v M) {pc : Nat} {L : am_L} {st : List Value} {M : am_M} (h : am_WP mt C T zm sm Rt pc L st M) : am_WP mt C' T zm sm Rt' pc L st M := by
  intro X hX
  exact h X fun pc L st M q => hX _ _ _ _ (am_F_mono hC hR (fun _ _ _ _ => id) q)
section AW
variable {mt : Nat → Nat × Nat × Nat × Nat × Nat} {C : am_C} {T : am_T} {zm sm : Nat} {Rt : Option Value → am_M → Prop}
theorem am_WP_fold (hC : am_CM C C) {pc : Nat} {L : am_L} {st : List Value} {M : am_M} (h : am_F mt C T zm sm Rt (am_WP mt C T zm sm Rt) pc L st M) : am_WP mt C T zm sm Rt pc L st M := by
  intro X hX
  exact hX _ _ _ _ (am_F_mono hC (fun _ _ => id) (fun _ _ _ _ q => q X hX) h)
theorem am_WP_blk (hC : am_CM C C) (cuts : List Nat) : ∀ (n : Nat) {pc : Nat} {L : am_L} {st : List Value} {M : am_M}, am_blk mt C T zm sm Rt cuts (am_WP mt C T zm sm Rt) n pc L st M → am_WP mt C T zm sm Rt pc L st M
  | 0, _, _, _, _, h => h
  | n + 1, pc, L, st, M, h => by
    unfold am_blk at h
    cases hc : cuts.any (Nat.beq pc) with
    | true => rw [hc] at h; exact h
    | false =>
      rw [hc] at h
      exact am_WP_fold hC (am_F_mono hC (fun _ _ => id) (fun _ _ _ _ q => am_WP_blk hC cuts n q) h)
/-- from a place on: one instruction, then to the next cut -/
theorem am_go (hC : am_CM C C) (cuts : List Nat) (n : Nat) {pc : Nat} {L : am_L} {st : List Value} {M : am_M} (h : am_F mt C T zm sm Rt (am_blk mt C T zm sm Rt cuts (am_WP mt C T zm sm Rt) n) pc L st M) : am_WP mt C T zm sm Rt pc L st M := am_WP_fold hC (am_F_mono hC (fun _ _ => id) (fun _ _ _ _ q => am_WP_blk hC cuts n q) h)
end AW
