/-! PERMUTATIONS THAT STAY FROM 24 ON; WHAT SOME OF THEM MAKE -/
def pe_m (f : Nat → Nat) : Prop := a_pm f ∧ ∀ p, 24 ≤ p → f p = p
def pe_n (f : Nat → Nat) : Nat → Nat := fun p => if p < 24 then f p else p
def pe_1 : Nat → Nat := fun p => p
def pe_c (g f : Nat → Nat) : Nat → Nat := fun p => g (f p)
noncomputable def pe_i (f : Nat → Nat) : Nat → Nat := fun q => if q < 24 then Classical.epsilon (fun p => p < 24 ∧ f p = q) else q
theorem pe_at {f : Nat → Nat} {p : Nat} (h : p < 24) : pe_n f p = f p := if_pos h
theorem pe_n_m {f : Nat → Nat} (h : a_pm f) : pe_m (pe_n f) :=
  ⟨⟨fun p hp => by rw [pe_at hp]; exact h.1 p hp, fun p q hp hq e => by rw [pe_at hp, pe_at hq] at e; exact h.2 p q hp hq e⟩, fun p hp => if_neg (by omega)⟩
theorem pe_1_m : pe_m pe_1 := ⟨⟨fun p hp => hp, fun p q _ _ e => e⟩, fun p _ => rfl⟩
section PF
variable {f g : Nat → Nat}
theorem pe_c_m (hg : pe_m g) (hf : pe_m f) : pe_m (pe_c g f) := ⟨⟨fun p hp => hg.1.1 _ (hf.1.1 p hp), fun p q hp hq e => hf.1.2 p q hp hq (hg.1.2 _ _ (hf.1.1 p hp) (hf.1.1 q hq) e)⟩, fun p hp => by show g (f p) = p; rw [hf.2 p hp, hg.2 p hp]⟩
theorem pe_ext (hf : pe_m f) (hg : pe_m g) (h : ∀ p, p < 24 → f p = g p) : f = g := funext fun p => by
  by_cases c : p < 24
  · exact h p c
  · rw [hf.2 p (by omega), hg.2 p (by omega)]
theorem pe_inj (hf : pe_m f) {p q : Nat} (e : f p = f q) : p = q := by
  by_cases c : p < 24
  · by_cases c2 : q < 24
    · exact hf.1.2 p q c c2 e
    · have := hf.1.1 p c
      rw [e, hf.2 q (by omega)] at this
      omega
  · by_cases c2 : q < 24
    · have := hf.1.1 q c2
      rw [← e, hf.2 p (by omega)] at this
      omega
    · rw [hf.2 p (by omega), hf.2 q (by omega)] at e
      exact e
theorem pe_i_at (hf : pe_m f) {q : Nat} (hq : q < 24) : pe_i f q < 24 ∧ f (pe_i f q) = q := by
  have := Classical.epsilon_spec (inj_onto hf.1.1 hf.1.2 hq)
  unfold pe_i
  rw [if_pos hq]
  exact this
theorem pe_i_r (hf : pe_m f) (q : Nat) : f (pe_i f q) = q := by
  by_cases c : q < 24
  · exact (pe_i_at hf c).2
  · have : pe_i f q = q := if_neg c
    rw [this, hf.2 q (by omega)]
theorem pe_i_l (hf : pe_m f) (p : Nat) : pe_i f (f p) = p := pe_inj hf (pe_i_r hf (f p))
theorem pe_i_m (hf : pe_m f) : pe_m (pe_i f) := ⟨⟨fun p hp => (pe_i_at hf hp).1, fun p q hp hq e => by
  rw [← pe_i_r hf p, e, pe_i_r hf q]⟩, fun p hp => if_neg (by omega)⟩
theorem pe_cir (hf : pe_m f) : pe_c f (pe_i f) = pe_1 := funext fun q => pe_i_r hf q
theorem pe_cil (hf : pe_m f) : pe_c (pe_i f) f = pe_1 := funext fun q => pe_i_l hf q
theorem pe_ii (hf : pe_m f) : pe_i (pe_i f) = f := funext fun q => pe_inj (pe_i_m hf) (by rw [pe_i_r (pe_i_m hf), pe_i_l hf])
theorem pe_i1 : pe_i pe_1 = pe_1 := funext fun q => pe_i_r pe_1_m q
theorem pe_cc {t h : Nat → Nat} (hf : pe_m f) (e : pe_c f t = pe_c f h) : t = h := funext fun p => pe_inj hf (congrFun e p)
end PF
/-- what the permutations of S make -/
def ge (S : (Nat → Nat) → Prop) (f : Nat → Nat) : Prop := ∀ X : (Nat → Nat) → Prop, X pe_1 → (∀ s f, S s → X f → X (pe_c s f)) → X f
section GE
variable {S S2 : (Nat → Nat) → Prop} {f g : Nat → Nat}
theorem ge_1 : ge S pe_1 := fun X h1 _ => h1
theorem ge_s (hs : S g) (h : ge S f) : ge S (pe_c g f) := fun X h1 h2 => h2 g f hs (h X h1 h2)
theorem ge_of (hs : S g) : ge S g := ge_s hs ge_1
theorem ge_ind (h : ge S f) {X : (Nat → Nat) → Prop} (h1 : X pe_1) (h2 : ∀ s f, S s → ge S f → X f → X (pe_c s f)) : X f := (h (fun f => ge S f ∧ X f) ⟨ge_1, h1⟩ fun s f hs q => ⟨ge_s hs q.1, h2 s f hs q.1 q.2⟩).2
theorem ge_c (hg : ge S g) (hf : ge S f) : ge S (pe_c g f) := hg (fun g => ge S (pe_c g f)) hf fun s x hs q => ge_s (g := s) (f := pe_c x f) hs q
theorem ge_sub (h : ∀ s, S s → ge S2 s) (hf : ge S f) : ge S2 f := hf _ ge_1 fun s _ hs q => ge_c (h s hs) q
theorem ge_m (h : ∀ s, S s → pe_m s) (hf : ge S f) : pe_m f := hf _ pe_1_m fun s _ hs q => pe_c_m (h s hs) q
theorem ge_i (h : ∀ s, S s → pe_m s) (hf : ge S f) : ge S (pe_i f) := by
  have fm := ge_m h hf
  obtain ⟨l, hl⟩ := Classical.axiomOfChoice (r := fun (p : Nat) (l : Nat) => p < 24 → g_ps f p l) (fun p => by
    by_cases c : p < 24
    · obtain ⟨l, hl⟩ := ps_ex fm.1 c
      exact ⟨l, fun _ => hl⟩
    · exact ⟨0, fun q => absurd q c⟩)
  obtain ⟨M, M0, _, hM⟩ := ps_bound fm.1 hl
  have pw : ∀ k, ge S (fun p => f_it f p k) := fun k => by
    induction k with
    | zero => exact ge_1
    | succ k ih => exact ge_c hf ih
  have big : ∀ k p, 24 ≤ p → f_it f p k = p := fun k p hp => by
    induction k with
    | zero => rfl
    | succ k ih =>
      show f (f_it f p k) = p
      rw [ih, fm.2 p hp]
  have e : pe_i f = fun p => f_it f p (M - 1) := funext fun p => pe_inj fm (by
    rw [pe_i_r fm]
    show p = f_it f p (M - 1 + 1)
    rw [show M - 1 + 1 = M by omega]
    by_cases c : p < 24
    · obtain ⟨m, hm⟩ := hM p c
      rw [hm]
      have := it_per (f := f) (hl p c).2.2.1 0 m
      exact this.symm
    · exact (big M p (by omega)).symm)
  rw [e]
  exact pw _
end GE
