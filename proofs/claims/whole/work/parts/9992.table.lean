/-! TABLES: at level k a permutation u k q for each q with D k q, that leaves b 0 .. b (k - 1) and sends b k to q -/
def fx (b : Nat → Nat) (k : Nat) (f : Nat → Nat) : Prop := ∀ j, j < k → f (b j) = b j
def ta (b : Nat → Nat) (D : Nat → Nat → Prop) (u : Nat → Nat → Nat → Nat) : Prop := a_pm b ∧ ∀ k, k < 24 → D k (b k) ∧ u k (b k) = pe_1 ∧ ∀ q, D k q → q < 24 ∧ pe_m (u k q) ∧ u k q (b k) = q ∧ fx b k (u k q)
/-- what the last n levels of a table have -/
def st (D : Nat → Nat → Prop) (u : Nat → Nat → Nat → Nat) : Nat → (Nat → Nat) → Prop
  | 0, f => f = pe_1
  | n + 1, f => ∃ q t, D (23 - n) q ∧ st D u n t ∧ f = pe_c (u (23 - n) q) t
section TA
variable {b : Nat → Nat} {D D2 : Nat → Nat → Prop} {u u2 : Nat → Nat → Nat → Nat} {S : (Nat → Nat) → Prop}
theorem fx_c {k : Nat} {f g : Nat → Nat} (hg : fx b k g) (hf : fx b k f) : fx b k (pe_c g f) := fun j hj => by
  show g (f (b j)) = b j
  rw [hf j hj, hg j hj]
theorem fx_i {k : Nat} {f : Nat → Nat} (fm : pe_m f) (hf : fx b k f) : fx b k (pe_i f) := fun j hj => pe_inj fm (by rw [pe_i_r fm, hf j hj])
theorem fx_le {k j : Nat} {f : Nat → Nat} (hf : fx b k f) (h : j ≤ k) : fx b j f := fun i hi => hf i (by omega)
theorem fx_s {k : Nat} {f : Nat → Nat} (hf : fx b k f) (h : f (b k) = b k) : fx b (k + 1) f := fun j hj => by
  by_cases c : j = k
  · rw [c, h]
  · exact hf j (by omega)
theorem fx_1 (hb : a_pm b) {f : Nat → Nat} (fm : pe_m f) (hf : fx b 24 f) : f = pe_1 := pe_ext fm pe_1_m fun p hp => by
  obtain ⟨i, i1, i2⟩ := inj_onto hb.1 hb.2 hp
  rw [← i2]
  exact hf i i1
theorem st_1 (h : ta b D u) : ∀ n, n ≤ 24 → st D u n pe_1
  | 0, _ => rfl
  | n + 1, hn => ⟨b (23 - n), pe_1, (h.2 _ (by omega)).1, st_1 h n (by omega), by rw [(h.2 (23 - n) (by omega)).2.1]; rfl⟩
theorem st_ok (h : ta b D u) : ∀ n, n ≤ 24 → ∀ f, st D u n f → pe_m f ∧ fx b (24 - n) f
  | 0, _, f, e => by
    have e : f = pe_1 := e
    rw [e]
    exact ⟨pe_1_m, fun j _ => rfl⟩
  | n + 1, hn, f, ⟨q, t, h1, h2, e⟩ => by
    obtain ⟨a1, a2⟩ := st_ok h n (by omega) t h2
    obtain ⟨b1, b2, b3, b4⟩ := (h.2 _ (by omega)).2.2 q h1
    rw [e]
    exact ⟨pe_c_m b2 a1, fx_c (fx_le b4 (by omega)) (fx_le a2 (by omega))⟩
theorem st_up (h : ta b D u) {n : Nat} (hn : n < 24) {f : Nat → Nat} (hf : st D u n f) : st D u (n + 1) f := ⟨b (23 - n), f, (h.2 _ (by omega)).1, hf, by rw [(h.2 (23 - n) (by omega)).2.1]; rfl⟩
theorem stq_le (h : ta b D u) {n : Nat} {f : Nat → Nat} (hf : st D u n f) : ∀ m, n + m ≤ 24 → st D u (n + m) f
  | 0, _ => hf
  | m + 1, hm => st_up h (show n + m < 24 by omega) (stq_le h hf m (by omega))
theorem st_u (h : ta b D u) {n q : Nat} (hn : n < 24) (hq : D (23 - n) q) : st D u (n + 1) (u (23 - n) q) := ⟨q, pe_1, hq, st_1 h n (by omega), rfl⟩
theorem st_sift (h : ta b D u) {n : Nat} (hn : n < 24) {f : Nat → Nat} : st D u (n + 1) f ↔ D (23 - n) (f (b (23 - n))) ∧ st D u n (pe_c (pe_i (u (23 - n) (f (b (23 - n))))) f) := by
  constructor
  · intro ⟨q, t, h1, h2, e⟩
    obtain ⟨a1, a2⟩ := st_ok h n (by omega) t h2
    obtain ⟨b1, b2, b3, b4⟩ := (h.2 _ (by omega)).2.2 q h1
    have e2 : f (b (23 - n)) = q := by
      rw [e]
      show u (23 - n) q (t (b (23 - n))) = q
      rw [a2 _ (by omega), b3]
    rw [e2]
    refine ⟨h1, ?_⟩
    have : pe_c (pe_i (u (23 - n) q)) f = t := by
      rw [e]
      exact funext fun p => pe_i_l b2 (t p)
    rw [this]
    exact h2
  · intro ⟨h1, h2⟩
    refine ⟨_, _, h1, h2, ?_⟩
    exact funext fun p => (pe_i_r ((h.2 _ (by omega)).2.2 _ h1).2.1 (f p)).symm
theorem st_mono (hD : ∀ k q, k < 24 → D k q → D2 k q ∧ u2 k q = u k q) : ∀ n, n ≤ 24 → ∀ f, st D u n f → st D2 u2 n f
  | 0, _, _, e => e
  | n + 1, hn, f, ⟨q, t, h1, h2, e⟩ => ⟨q, t, (hD _ q (by omega) h1).1, st_mono hD n (by omega) t h2, by rw [(hD _ q (by omega) h1).2]; exact e⟩
/-- only the levels from 24 - n on tell -/
theorem st_loc {n : Nat} (hn : n ≤ 24) (hD : ∀ k q, 24 - n ≤ k → k < 24 → D k q → D2 k q ∧ u2 k q = u k q) : ∀ m, m ≤ n → ∀ f, st D u m f → st D2 u2 m f
  | 0, _, _, e => e
  | m + 1, hm, f, ⟨q, t, h1, h2, e⟩ => ⟨q, t, (hD _ q (by omega) (by omega) h1).1, st_loc hn hD m (by omega) t h2, by rw [(hD _ q (by omega) (by omega) h1).2]; exact e⟩
theorem st_down (h : ta b D u) {f : Nat → Nat} (hf : st D u 24 f) : ∀ k, k ≤ 24 → fx b k f → st D u (24 - k) f
  | 0, _, _ => hf
  | k + 1, hk, hx => by
    have ih := st_down h hf k (by omega) (fx_le hx (Nat.le_succ k))
    rw [show 24 - k = (24 - (k + 1)) + 1 by omega, st_sift h (by omega)] at ih
    rw [show 23 - (24 - (k + 1)) = k by omega, hx k (by omega), (h.2 k (by omega)).2.1, pe_i1] at ih
    exact ih.2
/-- when the whole table is a group, the levels are told by it -/
theorem st_det (h : ta b D u) (hS : ∀ f, st D u 24 f ↔ ge S f) {k q : Nat} (hk : k < 24) : D k q ↔ ∃ f, ge S f ∧ fx b k f ∧ f (b k) = q := by
  constructor
  · intro hq
    obtain ⟨b1, b2, b3, b4⟩ := (h.2 k hk).2.2 q hq
    refine ⟨u k q, (hS _).mp ?_, b4, b3⟩
    have := st_u h (n := 23 - k) (q := q) (by omega) (by rw [show 23 - (23 - k) = k by omega]; exact hq)
    rw [show 23 - (23 - k) = k by omega] at this
    have := stq_le h this k (by omega)
    rw [show 23 - k + 1 + k = 24 by omega] at this
    exact this
  · intro ⟨f, h1, h2, h3⟩
    have := st_down h ((hS f).mpr h1) k (by omega) h2
    rw [show 24 - k = (23 - k) + 1 by omega, st_sift h (by omega), show 23 - (23 - k) = k by omega, h3] at this
    exact this.1
theorem st_ug (h : ta b D u) (hS : ∀ f, st D u 24 f → ge S f) {k q : Nat} (hk : k < 24) (hq : D k q) : ge S (u k q) := by
  have := st_u h (n := 23 - k) (q := q) (by omega) (by rw [show 23 - (23 - k) = k by omega]; exact hq)
  rw [show 23 - (23 - k) = k by omega] at this
  have := stq_le h this k (by omega)
  rw [show 23 - k + 1 + k = 24 by omega] at this
  exact hS _ this
/-- products from the left -/
theorem st_left {n : Nat} (hc : ∀ f g, st D u n f → st D u n g → st D u n (pe_c f g)) {v : Nat → Nat} (hv : ∀ q, D (23 - n) q → st D u (n + 1) (pe_c v (u (23 - n) q))) {f : Nat → Nat} : st D u (n + 1) f → st D u (n + 1) (pe_c v f) := by
  intro ⟨q, t, h1, h2, e⟩
  obtain ⟨q', t', h1', h2', e'⟩ := hv q h1
  refine ⟨q', pe_c t' t, h1', hc _ _ h2' h2, ?_⟩
  rw [e]
  exact funext fun p => congrFun e' (t p)
/-- a table with all products of two is closed -/
theorem st_pairs (h : ta b D u) (hp : ∀ k j q q', k ≤ j → j < 24 → D k q → D j q' → st D u (24 - k) (pe_c (u j q') (u k q))) : ∀ n, n ≤ 24 → ∀ f g, st D u n f → st D u n g → st D u n (pe_c f g)
  | 0, _, f, g, e1, e2 => by
    have e1 : f = pe_1 := e1
    rw [e1]
    exact e2
  | n + 1, hn, f, g, hf, hg => by
    have hc := st_pairs h hp n (by omega)
    have left : ∀ j q', 23 - n ≤ j → j < 24 → D j q' → ∀ g, st D u (n + 1) g → st D u (n + 1) (pe_c (u j q') g) := fun j q' h1 h2 h3 g => st_left hc fun q hq => by
      have := hp (23 - n) j q q' h1 h2 hq h3
      rw [show 24 - (23 - n) = n + 1 by omega] at this
      exact this
    have key : ∀ m, m ≤ n + 1 → ∀ f, st D u m f → st D u (n + 1) (pe_c f g) := fun m => by
      induction m with
      | zero =>
        intro _ f e
        have e : f = pe_1 := e
        rw [e]
        exact hg
      | succ m ih =>
        intro hm f ⟨q, t, h1, h2, e⟩
        have := left (23 - m) q (by omega) (by omega) h1 _ (ih (by omega) t h2)
        rw [e]
        exact this
    exact key (n + 1) (Nat.le_refl _) f hf
/-- a closed table with the generators in it, all of it in their group: it is their group -/
theorem st_group (h : ta b D u) (hS : ∀ s, S s → st D u 24 s) (hU : ∀ k q, k < 24 → D k q → ge S (u k q)) (hp : ∀ k j q q', k ≤ j → j < 24 → D k q → D j q' → st D u (24 - k) (pe_c (u j q') (u k q))) (f : Nat → Nat) : st D u 24 f ↔ ge S f := by
  constructor
  · have key : ∀ n, n ≤ 24 → ∀ f, st D u n f → ge S f := fun n => by
      induction n with
      | zero =>
        intro _ f e
        have e : f = pe_1 := e
        rw [e]
        exact ge_1
      | succ n ih =>
        intro hn f ⟨q, t, h1, h2, e⟩
        rw [e]
        exact ge_c (hU _ q (by omega) h1) (ih (by omega) t h2)
    exact key 24 (Nat.le_refl _) f
  · intro hf
    exact ge_ind hf (st_1 h 24 (Nat.le_refl _)) fun s f hs _ ih => st_pairs h hp 24 (Nat.le_refl _) _ _ (hS s hs) ih
/-! the class's chain: at each level its generators -/
/-- the last n levels are closed, by the generators S k -/
def cl (b : Nat → Nat) (D : Nat → Nat → Prop) (u : Nat → Nat → Nat → Nat) (S : Nat → (Nat → Nat) → Prop) : Nat → Prop
  | 0 => ∀ g, ¬ S 24 g
  | n + 1 => cl b D u S n ∧ (∀ g, S (23 - n) g → pe_m g ∧ fx b (23 - n) g) ∧ (∀ g q, S (23 - n) g → D (23 - n) q → st D u (n + 1) (pe_c g (u (23 - n) q))) ∧ (∀ q, D (23 - n) q → ge (S (23 - n)) (u (23 - n) q)) ∧ ∀ g, S (24 - n) g → ge (S (23 - n)) g
variable {G : Nat → (Nat → Nat) → Prop}
theorem cl_ge (h : ta b D u) : ∀ n, n ≤ 24 → cl b D u G n → ∀ f, st D u n f ↔ ge (G (24 - n)) f
  | 0, _, hc, f => by
    have hc : ∀ g, ¬ G 24 g := hc
    constructor
    · intro e
      have e : f = pe_1 := e
      rw [e]
      exact ge_1
    · intro hf
      exact ge_ind hf rfl fun s f hs _ _ => absurd hs (hc s)
  | n + 1, hn, hc, f => by
    obtain ⟨c1, c2, c3, c4, c5⟩ := hc
    have ih := cl_ge h n (by omega) c1
    have e : 24 - (n + 1) = 23 - n := by omega
    rw [e]
    have hcomp : ∀ f g, st D u n f → st D u n g → st D u n (pe_c f g) := fun f g h1 h2 => (ih _).mpr (ge_c ((ih f).mp h1) ((ih g).mp h2))
    constructor
    · intro ⟨q, t, h1, h2, e⟩
      rw [e]
      exact ge_c (c4 q h1) (ge_sub c5 ((ih t).mp h2))
    · intro hf
      exact ge_ind hf (st_1 h (n + 1) hn) fun s f hs _ q => st_left hcomp (fun q hq => c3 s q hs hq) q
theorem cl_comp (h : ta b D u) {n : Nat} (hn : n ≤ 24) (hc : cl b D u G n) {f g : Nat → Nat} (hf : st D u n f) (hg : st D u n g) : st D u n (pe_c f g) := by
  rw [cl_ge h n hn hc] at hf hg ⊢
  exact ge_c hf hg
/-- what the last n levels have alone tells -/
theorem cl_loc {S2 : Nat → (Nat → Nat) → Prop} {n : Nat} (hn : n ≤ 24) (hD : ∀ k q, 24 - n ≤ k → k < 24 → (D2 k q ↔ D k q)) (hu : ∀ k q, 24 - n ≤ k → k < 24 → D k q → u2 k q = u k q) (hG : ∀ k g, 24 - n ≤ k → k ≤ 24 → (S2 k g ↔ G k g)) : ∀ m, m ≤ n → cl b D u G m → cl b D2 u2 S2 m
  | 0, _, h => fun g hg => h g ((hG 24 g (by omega) (by omega)).mp hg)
  | m + 1, hm, ⟨c1, c2, c3, c4, c5⟩ => by
    have gs : ∀ k, 24 - n ≤ k → k ≤ 24 → ∀ f, ge (G k) f → ge (S2 k) f := fun k h1 h2 f hf => ge_sub (fun s hs => ge_of ((hG k s h1 h2).mpr hs)) hf
    refine ⟨cl_loc hn hD hu hG m (by omega) c1, fun g hg => c2 g ((hG _ g (by omega) (by omega)).mp hg), fun g q hg hq => ?_, fun q hq => ?_, fun g hg => gs _ (by omega) (by omega) _ (c5 g ((hG _ g (by omega) (by omega)).mp hg))⟩
    · have hq := (hD _ q (by omega) (by omega)).mp hq
      rw [hu _ q (by omega) (by omega) hq]
      exact st_loc hn (fun k q h1 h2 h3 => ⟨(hD k q h1 h2).mpr h3, hu k q h1 h2 h3⟩) (m + 1) hm _ (c3 g q ((hG _ g (by omega) (by omega)).mp hg) hq)
    · have hq := (hD _ q (by omega) (by omega)).mp hq
      rw [hu _ q (by omega) (by omega) hq]
      exact gs _ (by omega) (by omega) _ (c4 q hq)
end TA
