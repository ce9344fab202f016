/-! THE CLASS'S CHAIN: how levels grow -/
theorem pr_loc {s s2 : Nat → Nat} : ∀ m, m ≤ 24 → (∀ i, 24 - m ≤ i → i < 24 → s2 i = s i) → pr s2 m = pr s m
  | 0, _, _ => rfl
  | m + 1, hm, h => by
    show s2 (23 - m) * pr s2 m = s (23 - m) * pr s m
    rw [h (23 - m) (by omega) (by omega), pr_loc m (by omega) fun i h1 h2 => h i (by omega) h2]
def gd (b : Nat → Nat) (C : c_T) (n : Nat) : Prop := cl b (t_D C) (t_u C) (t_S C) n ∧ ∀ j, 24 - n ≤ j → j < 24 → 2 ^ (C.2.2.1 j) ≤ pr C.1 (24 - j)
def low (k : Nat) (C C2 : c_T) : Prop := ∀ j, j < k → C2.1 j = C.1 j ∧ C2.2.1 j = C.2.1 j ∧ C2.2.2.1 j = C.2.2.1 j ∧ C2.2.2.2.1 j = C.2.2.2.1 j ∧ C2.2.2.2.2.1 j = C.2.2.2.2.1 j ∧ C2.2.2.2.2.2 j = C.2.2.2.2.2 j
def gw (C C2 : c_T) : Prop := ∀ j q, j < 24 → t_D C j q → t_D C2 j q ∧ C2.2.2.2.2.1 j q = C.2.2.2.2.1 j q
def lP (b : Nat → Nat) (n : Nat) (C C2 : c_T) : Prop := cw b C2 ∧ low (23 - n) C C2 ∧ gw C C2 ∧ (C.1 (23 - n) ≤ C2.1 (23 - n) ∧ ∀ a, a < C.1 (23 - n) → C2.2.2.2.1 (23 - n) a = C.2.2.2.1 (23 - n) a) ∧ (C2.2.2.1 (23 - n) = C.2.2.1 (23 - n) ∧ C2.2.2.2.2.2 (23 - n) = C.2.2.2.2.2 (23 - n)) ∧ gd b C2 n ∧ (∀ q, t_D C2 (23 - n) q → ge (t_S C2 (23 - n)) (t_u C2 (23 - n) q)) ∧ ∀ g, t_S C2 (24 - n) g → ge (t_S C2 (23 - n)) g
def aP (b : Nat → Nat) (n : Nat) (C C2 : c_T) (x : Nat → Nat) : Prop := cw b C2 ∧ low (23 - n) C C2 ∧ gw C C2 ∧ gd b C2 (n + 1) ∧ ∀ f, t_S C2 (23 - n) f ↔ t_S C (23 - n) f ∨ f = x
section CA
variable {b : Nat → Nat} {C C1 C2 C3 : c_T} {n k q : Nat} {x : Nat → Nat}
theorem low_t (h : low k C C2) (h2 : low k C2 C3) : low k C C3 := fun j hj => by
  obtain ⟨a1, a2, a3, a4, a5, a6⟩ := h j hj
  obtain ⟨b1, b2, b3, b4, b5, b6⟩ := h2 j hj
  exact ⟨b1.trans a1, b2.trans a2, b3.trans a3, b4.trans a4, b5.trans a5, b6.trans a6⟩
theorem low_r : low k C C := fun _ _ => ⟨rfl, rfl, rfl, rfl, rfl, rfl⟩
theorem gw_t (h : gw C C2) (h2 : gw C2 C3) : gw C C3 := fun j q hj hq => by
  obtain ⟨a1, a2⟩ := h j q hj hq
  obtain ⟨b1, b2⟩ := h2 j q hj a1
  exact ⟨b1, b2.trans a2⟩
theorem gw_r : gw C C := fun _ _ _ hq => ⟨hq, rfl⟩
theorem gw_st (h : gw C C2) {m : Nat} (hm : m ≤ 24) {f : Nat → Nat} (hf : st (t_D C) (t_u C) m f) : st (t_D C2) (t_u C2) m f := st_mono (fun j q hj hq => ⟨(h j q hj hq).1, congrArg pe_i (h j q hj hq).2⟩) m hm f hf
theorem lP_t (h : lP b n C C2) (h2 : lP b n C2 C3) : lP b n C C3 := by
  obtain ⟨a1, a2, a3, a4, a5, a6, a7, a8⟩ := h
  obtain ⟨b1, b2, b3, b4, b5, b6, b7, b8⟩ := h2
  exact ⟨b1, low_t a2 b2, gw_t a3 b3, ⟨Nat.le_trans a4.1 b4.1, fun a ha => by rw [b4.2 a (Nat.lt_of_lt_of_le ha a4.1), a4.2 a ha]⟩, ⟨b5.1.trans a5.1, b5.2.trans a5.2⟩, b6, b7, b8⟩
theorem tS_eq (h1 : C2.2.2.1 k = C.2.2.1 k) (h2 : C2.2.2.2.2.2 k = C.2.2.2.2.2 k) (f : Nat → Nat) : t_S C2 k f ↔ t_S C k f := by
  unfold t_S
  rw [h1, h2]
theorem tS_ge (h1 : C2.2.2.1 k = C.2.2.1 k) (h2 : C2.2.2.2.2.2 k = C.2.2.2.2.2 k) {f : Nat → Nat} (h : ge (t_S C k) f) : ge (t_S C2 k) f := ge_sub (fun s hs => ge_of ((tS_eq h1 h2 s).mpr hs)) h
theorem cw_m (hw : cw b C) (hk : k ≤ 24) {g : Nat → Nat} (hg : t_S C k g) : pe_m g ∧ g_pvb g = true := by
  obtain ⟨a, h1, h2⟩ := hg
  by_cases c : k = 24
  · rw [c, hw.2.1] at h1
    exact absurd h1 (Nat.not_lt_zero a)
  · rw [← h2]
    exact (hw.2.2 k (by omega)).2.2.2.2 a h1
theorem gd_loc (hn : n ≤ 24) (h : gd b C n) (h1 : ∀ j, 24 - n ≤ j → j < 24 → C2.1 j = C.1 j ∧ C2.2.1 j = C.2.1 j ∧ C2.2.2.2.2.1 j = C.2.2.2.2.1 j) (h2 : ∀ j, 24 - n ≤ j → j ≤ 24 → C2.2.2.1 j = C.2.2.1 j ∧ C2.2.2.2.2.2 j = C.2.2.2.2.2 j) : gd b C2 n := by
  refine ⟨cl_loc hn (fun j q a1 a2 => ?_) (fun j q a1 a2 _ => ?_) (fun j g a1 a2 => tS_eq (h2 j a1 a2).1 (h2 j a1 a2).2 g) n (Nat.le_refl _) h.1, fun j a1 a2 => ?_⟩
  · unfold t_D
    rw [(h1 j a1 a2).2.1]
  · unfold t_u
    rw [(h1 j a1 a2).2.2]
  · rw [(h2 j a1 (by omega)).1, pr_loc (24 - j) (by omega) fun i i1 i2 => (h1 i (by omega) i2).1]
    exact h.2 j a1 a2
/-- a place is reached -/
theorem lP_reach (hn : n < 24) (hw : cw b C) (hg : gd b C n) (hu : ∀ q, t_D C (23 - n) q → ge (t_S C (23 - n)) (t_u C (23 - n) q)) (hs : ∀ g, t_S C (24 - n) g → ge (t_S C (23 - n)) g) (xm : pe_m x) (xf : fx b (23 - n) x) (xq : x (b (23 - n)) = q) (kp : g_pvb x = true) (xg : ge (t_S C (23 - n)) x) (hq : ¬ t_D C (23 - n) q) : lP b n C (t_r C (23 - n) q x) ∧ st (t_D (t_r C (23 - n) q x)) (t_u (t_r C (23 - n) q x)) (n + 1) x := by
  have w2 := tr_w hw (by omega) xm xf xq kp hq
  have old : ∀ j p, t_D C j p → (t_r C (23 - n) q x).2.2.2.2.1 j p = C.2.2.2.2.1 j p := fun j p h => tr_v fun e => by
    rw [e.1, e.2] at h
    exact hq h
  have e1 : (t_r C (23 - n) q x).1 (23 - n) = C.1 (23 - n) + 1 := am_u1_at _ _ _
  have e2 : (t_r C (23 - n) q x).2.2.2.1 (23 - n) = am_u1 (C.2.2.2.1 (23 - n)) (C.1 (23 - n)) q := am_u1_at _ _ _
  refine ⟨⟨w2, fun j hj => ⟨am_u1_off _ _ (by omega), am_u1_off _ _ (by omega), rfl, am_u1_off _ _ (by omega), am_u1_off _ _ (by omega), rfl⟩, fun j p hj hp => ⟨tr_D.mpr (Or.inl hp), old j p hp⟩, ⟨by omega, fun a ha => by rw [e2, am_u1_off _ _ (by omega)]⟩, ⟨rfl, rfl⟩, gd_loc (by omega) hg (fun j h1 h2 => ⟨am_u1_off _ _ (by omega), am_u1_off _ _ (by omega), am_u1_off _ _ (by omega)⟩) (fun j h1 h2 => ⟨rfl, rfl⟩), fun p hp => ?_, hs⟩, ?_⟩
  · rcases tr_D.mp hp with hp | ⟨_, e⟩
    · have : t_u (t_r C (23 - n) q x) (23 - n) p = t_u C (23 - n) p := congrArg pe_i (old _ p hp)
      rw [this]
      exact hu p hp
    · rw [e, tr_u, pe_ii xm]
      exact xg
  · rw [st_sift w2.1 hn, xq, tr_u, pe_ii xm, pe_cil xm]
    exact ⟨tr_D.mpr (Or.inr ⟨rfl, rfl⟩), st_1 w2.1 n (by omega)⟩
/-- the place was reached; what is left was in the level below -/
theorem lP_same (hw : cw b C) (hg : gd b C n) (hu : ∀ q, t_D C (23 - n) q → ge (t_S C (23 - n)) (t_u C (23 - n) q)) (hs : ∀ g, t_S C (24 - n) g → ge (t_S C (23 - n)) g) : lP b n C C := ⟨hw, low_r, gw_r, ⟨Nat.le_refl _, fun _ _ => rfl⟩, ⟨rfl, rfl⟩, hg, hu, hs⟩
/-- or has come to it -/
theorem lP_adm (hn : n + 1 < 24) (hw : cw b C) (hu : ∀ q, t_D C (23 - (n + 1)) q → ge (t_S C (23 - (n + 1))) (t_u C (23 - (n + 1)) q)) (hs : ∀ g, t_S C (24 - (n + 1)) g → ge (t_S C (23 - (n + 1))) g) (xq : x (b (23 - (n + 1))) = q) (xg : ge (t_S C (23 - (n + 1))) x) (hq : t_D C (23 - (n + 1)) q) (hP : aP b n C C2 (pe_c (C.2.2.2.2.1 (23 - (n + 1)) q) x)) : lP b (n + 1) C C2 ∧ st (t_D C2) (t_u C2) (n + 1 + 1) x := by
  obtain ⟨p1, p2, p3, p4, p5⟩ := hP
  obtain ⟨l1, l2, l3, l4, l5, l6⟩ := p2 (23 - (n + 1)) (by omega)
  have vm := ((hw.2.2 _ (show 23 - (n + 1) < 24 by omega)).2.2.2.1 q hq).1
  have uv : pe_i (t_u C (23 - (n + 1)) q) = C.2.2.2.2.1 (23 - (n + 1)) q := pe_ii vm
  have eD : ∀ p, t_D C2 (23 - (n + 1)) p ↔ t_D C (23 - (n + 1)) p := fun p => by unfold t_D; rw [l2]
  have eu : ∀ p, t_u C2 (23 - (n + 1)) p = t_u C (23 - (n + 1)) p := fun p => by unfold t_u; rw [l5]
  refine ⟨⟨p1, fun j hj => p2 j (by omega), p3, ⟨by omega, fun a _ => by rw [l4]⟩, ⟨l3, l6⟩, p4, fun p hp => ?_, fun g hg => ?_⟩, ?_⟩
  · rw [eu]
    exact tS_ge l3 l6 (hu p ((eD p).mp hp))
  · rw [show 24 - (n + 1) = 23 - n by omega] at hg
    refine tS_ge l3 l6 ?_
    rcases (p5 g).mp hg with hg | hg
    · exact hs g (by rw [show 24 - (n + 1) = 23 - n by omega]; exact hg)
    · rw [hg, ← uv]
      exact ge_c (ge_i (fun s hs => (cw_m hw (by omega) hs).1) (hu q hq)) xg
  · rw [st_sift p1.1 hn, xq, eu, uv]
    refine ⟨(eD q).mpr hq, (cl_ge p1.1 (n + 1) (by omega) p4.1 _).mpr ?_⟩
    rw [show 24 - (n + 1) = 23 - n by omega]
    exact ge_of ((p5 _).mpr (Or.inr rfl))
/-- a generator more -/
def t_g (C : c_T) (k : Nat) (x : Nat → Nat) : c_T := (C.1, C.2.1, am_u1 C.2.2.1 k (C.2.2.1 k + 1), C.2.2.2.1, C.2.2.2.2.1, am_u1 C.2.2.2.2.2 k (am_u1 (C.2.2.2.2.2 k) (C.2.2.1 k) x))
theorem tg_c : (t_g C k x).2.2.1 k = C.2.2.1 k + 1 := am_u1_at _ _ _
theorem tg_g : (t_g C k x).2.2.2.2.2 k = am_u1 (C.2.2.2.2.2 k) (C.2.2.1 k) x := am_u1_at _ _ _
theorem tg_co {j : Nat} (h : ¬ j = k) : (t_g C k x).2.2.1 j = C.2.2.1 j := am_u1_off _ _ h
theorem tg_go {j : Nat} (h : ¬ j = k) : (t_g C k x).2.2.2.2.2 j = C.2.2.2.2.2 j := am_u1_off _ _ h
theorem tg_S {f : Nat → Nat} : t_S (t_g C k x) k f ↔ t_S C k f ∨ f = x := by
  unfold t_S
  rw [tg_c, tg_g]
  constructor
  · intro ⟨a, h1, h2⟩
    by_cases c : a = C.2.2.1 k
    · rw [c, am_u1_at] at h2
      exact Or.inr h2.symm
    · rw [am_u1_off _ _ c] at h2
      exact Or.inl ⟨a, by omega, h2⟩
  · intro h
    rcases h with ⟨a, h1, h2⟩ | h
    · exact ⟨a, by omega, by rw [am_u1_off _ _ (by omega), h2]⟩
    · exact ⟨C.2.2.1 k, by omega, by rw [am_u1_at, h]⟩
theorem tg_w (hw : cw b C) (hk : k < 24) (xm : pe_m x) (kp : g_pvb x = true) (hc : C.2.2.1 k < 28) : cw b (t_g C k x) := by
  obtain ⟨h1, h2, h3⟩ := hw
  refine ⟨h1, by rw [tg_co (by omega), h2], fun j hj => ?_⟩
  obtain ⟨a1, a2, a3, a4, a5⟩ := h3 j hj
  refine ⟨a1, a2, ?_, a4, fun a ha => ?_⟩
  · by_cases c : j = k
    · rw [c, tg_c]
      omega
    · rw [tg_co c]
      exact a3
  · by_cases c : j = k
    · rw [c] at ha a5 ⊢
      rw [tg_c] at ha
      rw [tg_g]
      by_cases c2 : a = C.2.2.1 k
      · rw [c2, am_u1_at]
        exact ⟨xm, kp⟩
      · rw [am_u1_off _ _ c2]
        exact a5 a (by omega)
    · rw [tg_co c] at ha
      rw [tg_go c]
      exact a5 a ha
theorem tg_lP (hn : n < 24) (hw : cw b C) (hg : gd b C (n + 1)) (xm : pe_m x) (kp : g_pvb x = true) (hc : C.2.2.1 (23 - n) < 28) : lP b n (t_g C (23 - n) x) (t_g C (23 - n) x) := by
  have up : ∀ f, ge (t_S C (23 - n)) f → ge (t_S (t_g C (23 - n) x) (23 - n)) f := fun f hf => ge_sub (fun s hs => ge_of (tg_S.mpr (Or.inl hs))) hf
  refine lP_same (tg_w hw (by omega) xm kp hc) ?_ (fun q hq => up _ (hg.1.2.2.2.1 q hq)) (fun g hg2 => up _ (hg.1.2.2.2.2 g ?_))
  · exact gd_loc (C := C) (by omega) ⟨hg.1.1, fun j h1 h2 => hg.2 j (by omega) h2⟩ (fun j _ _ => ⟨rfl, rfl, rfl⟩) fun j h1 _ => ⟨tg_co (by omega), tg_go (by omega)⟩
  · exact (tS_eq (tg_co (by omega)) (tg_go (by omega)) g).mp hg2
theorem cnt_28 (hn : n < 24) (hw : cw b C) (hg : gd b C (n + 1)) : C.2.2.1 (23 - n) < 28 := by
  have ho : ∀ k, k < 24 → eo (t_D C k) (C.1 k) (C.2.2.2.1 k) := fun k hk => (hw.2.2 k hk).2.1
  have h1 := hg.2 (23 - n) (by omega) (by omega)
  have h2 := pr_24 hw.1 ho (b48 hw.1 ho fun k q hk hq => ((hw.2.2 k hk).2.2.2.1 q hq).2)
  have h3 := pr_up hw.1 ho (n := 24 - (23 - n)) (23 - n) (by omega)
  rw [show 24 - (23 - n) + (23 - n) = 24 by omega] at h3
  refine Classical.byContradiction fun c => ?_
  have : 2 ^ 28 ≤ 2 ^ (C.2.2.1 (23 - n)) := Nat.pow_le_pow_right (by decide) (by omega)
  omega
/-- all has been tried -/
theorem aP_end (hn : n < 24) (hw : cw b C) (hg : gd b C (n + 1)) (xm : pe_m x) (xf : fx b (23 - n) x) (hx : ¬ st (t_D C) (t_u C) (n + 1) x) (hP : lP b n (t_g C (23 - n) x) C2) (hA : ∀ a e, a < C2.1 (23 - n) → e ≤ C.2.2.1 (23 - n) → st (t_D C2) (t_u C2) (n + 1) (pe_c ((t_g C (23 - n) x).2.2.2.2.2 (23 - n) e) (t_u C2 (23 - n) (C2.2.2.2.1 (23 - n) a)))) : aP b n C C2 x := by
  obtain ⟨a1, a2, a3, a4, a5, a6, a7, a8⟩ := hP
  have hS : ∀ f, t_S C2 (23 - n) f ↔ t_S C (23 - n) f ∨ f = x := fun f => (tS_eq a5.1 a5.2 f).trans tg_S
  have hcl : cl b (t_D C2) (t_u C2) (t_S C2) (n + 1) := by
    refine ⟨a6.1, fun g hg2 => ⟨(cw_m a1 (by omega) hg2).1, ?_⟩, fun g q hg2 hq => ?_, a7, a8⟩
    · rcases (hS g).mp hg2 with h | h
      · exact (hg.1.2.1 g h).2
      · rw [h]
        exact xf
    · obtain ⟨e, e1, e2⟩ := hg2
      obtain ⟨a, c1, c2⟩ := (a1.2.2 _ (show 23 - n < 24 by omega)).2.1.2.2 q hq
      rw [a5.1, tg_c] at e1
      rw [a5.2] at e2
      have := hA a e c1 (by omega)
      rw [e2, c2] at this
      exact this
  refine ⟨a1, fun j hj => ?_, a3, ⟨hcl, fun j h1 h2 => ?_⟩, hS⟩
  · obtain ⟨l1, l2, l3, l4, l5, l6⟩ := a2 j hj
    exact ⟨l1, l2, l3.trans (tg_co (by omega)), l4, l5, l6.trans (tg_go (by omega))⟩
  · by_cases c : j = 23 - n
    · rw [c, a5.1, tg_c, show 24 - (23 - n) = n + 1 by omega]
      have h3 := hg.2 (23 - n) (by omega) (by omega)
      rw [show 24 - (23 - n) = n + 1 by omega] at h3
      have ho : ∀ k, k < 24 → eo (t_D C k) (C.1 k) (C.2.2.2.1 k) := fun k hk => (hw.2.2 k hk).2.1
      have ho2 : ∀ k, k < 24 → eo (t_D C2 k) (C2.1 k) (C2.2.2.2.1 k) := fun k hk => (a1.2.2 k hk).2.1
      obtain ⟨e, he⟩ := st_en hw.1 ho (n + 1) (by omega)
      obtain ⟨e2, he2⟩ := st_en a1.1 ho2 (n + 1) (by omega)
      have c1 := cl_ge hw.1 (n + 1) (by omega) hg.1
      have c2 := cl_ge a1.1 (n + 1) (by omega) hcl
      rw [show 24 - (n + 1) = 23 - n by omega] at c1 c2
      have f1 := funext fun f => propext (c1 f)
      have f2 := funext fun f => propext (c2 f)
      rw [f1] at he
      rw [f2] at he2
      have := en_dbl (fun s hs => (cw_m hw (by omega) hs).1) xm (fun h => hx ((c1 x).mpr h)) (fun s hs => ge_of ((hS s).mpr (Or.inl hs))) (ge_of ((hS x).mpr (Or.inr rfl))) he he2
      rw [Nat.pow_succ]
      omega
    · exact a6.2 j (by omega) h2
end CA
