/-! HOW MANY -/
theorem inj_le {κ : Nat → Nat} {N M : Nat} (h1 : ∀ i, i < N → κ i < M) (h2 : ∀ i j, i < N → j < N → κ i = κ j → i = j) : N ≤ M := by
  have dp := Classical.propDecidable
  have := cnt_inj (κ := κ) (N := M) N h1 h2 (fun k => @decide (∃ i, i < N ∧ κ i = k) (dp _)) (fun k _ => @decide_eq_true_iff _ (dp _))
  rw [← this]
  exact cnt_le _ _
/-- o tells all of P, s of them -/
def eo (P : Nat → Prop) (s : Nat) (o : Nat → Nat) : Prop := (∀ a, a < s → P (o a)) ∧ (∀ a c, a < s → c < s → o a = o c → a = c) ∧ ∀ q, P q → ∃ a, a < s ∧ o a = q
theorem eo_cnt (P : Nat → Bool) : ∀ N, ∃ o, eo (fun q => q < N ∧ P q = true) (g_cnt P N) o
  | 0 => ⟨fun _ => 0, fun a ha => absurd ha (Nat.not_lt_zero a), fun a c ha => absurd ha (Nat.not_lt_zero a), fun q hq => absurd hq.1 (Nat.not_lt_zero q)⟩
  | N + 1 => by
    obtain ⟨o, o1, o2, o3⟩ := eo_cnt P N
    rw [cnt_s]
    by_cases c : P N = true
    · rw [if_pos c]
      refine ⟨fun a => if a < g_cnt P N then o a else N, fun a ha => ?_, fun a e ha he q => ?_, fun q hq => ?_⟩
      · by_cases c2 : a < g_cnt P N
        · dsimp only
          rw [if_pos c2]
          exact ⟨Nat.lt_succ_of_lt (o1 a c2).1, (o1 a c2).2⟩
        · dsimp only
          rw [if_neg c2]
          exact ⟨Nat.lt_succ_self N, c⟩
      · simp only [] at q
        by_cases c2 : a < g_cnt P N
        · rw [if_pos c2] at q
          have := (o1 a c2).1
          by_cases c3 : e < g_cnt P N
          · rw [if_pos c3] at q
            exact o2 a e c2 c3 q
          · rw [if_neg c3] at q
            omega
        · rw [if_neg c2] at q
          by_cases c3 : e < g_cnt P N
          · rw [if_pos c3] at q
            have := (o1 e c3).1
            omega
          · omega
      · by_cases c2 : q = N
        · exact ⟨g_cnt P N, Nat.lt_succ_self _, by simp only []; rw [if_neg (Nat.lt_irrefl _), c2]⟩
        · obtain ⟨a, a1, a2⟩ := o3 q ⟨by omega, hq.2⟩
          exact ⟨a, by omega, by simp only []; rw [if_pos a1, a2]⟩
    · rw [if_neg c]
      refine ⟨o, fun a ha => ⟨Nat.lt_succ_of_lt (o1 a ha).1, (o1 a ha).2⟩, o2, fun q hq => o3 q ⟨?_, hq.2⟩⟩
      by_cases c2 : q = N
      · rw [c2] at hq
        exact absurd hq.2 c
      · omega
theorem eo_le {P Q : Nat → Prop} {s r : Nat} {o c : Nat → Nat} (h : eo P s o) (h2 : eo Q r c) (hPQ : ∀ q, P q → Q q) : s ≤ r := by
  obtain ⟨κ, hκ⟩ := Classical.axiomOfChoice (r := fun (i : Nat) (k : Nat) => i < s → k < r ∧ c k = o i) (fun i => by
    by_cases q : i < s
    · obtain ⟨k, k1, k2⟩ := h2.2.2 _ (hPQ _ (h.1 i q))
      exact ⟨k, fun _ => ⟨k1, k2⟩⟩
    · exact ⟨0, fun a => absurd a q⟩)
  exact inj_le (fun i hi => (hκ i hi).1) (fun i j hi hj e => h.2.1 i j hi hj (by rw [← (hκ i hi).2, ← (hκ j hj).2, e]))
theorem eo_uni {P Q : Nat → Prop} {s r : Nat} {o c : Nat → Nat} (h : eo P s o) (h2 : eo Q r c) (hPQ : ∀ q, P q ↔ Q q) : s = r := Nat.le_antisymm (eo_le h h2 fun q => (hPQ q).mp) (eo_le h2 h fun q => (hPQ q).mpr)
/-- e tells all of P, N of them -/
def en (P : (Nat → Nat) → Prop) (N : Nat) (e : Nat → Nat → Nat) : Prop := (∀ i, i < N → P (e i)) ∧ (∀ i j, i < N → j < N → e i = e j → i = j) ∧ ∀ f, P f → ∃ i, i < N ∧ e i = f
theorem en_le {P Q : (Nat → Nat) → Prop} {N M : Nat} {e c : Nat → Nat → Nat} (h : en P N e) (h2 : en Q M c) (hPQ : ∀ f, P f → Q f) : N ≤ M := by
  obtain ⟨κ, hκ⟩ := Classical.axiomOfChoice (r := fun (i : Nat) (k : Nat) => i < N → k < M ∧ c k = e i) (fun i => by
    by_cases q : i < N
    · obtain ⟨k, k1, k2⟩ := h2.2.2 _ (hPQ _ (h.1 i q))
      exact ⟨k, fun _ => ⟨k1, k2⟩⟩
    · exact ⟨0, fun a => absurd a q⟩)
  exact inj_le (fun i hi => (hκ i hi).1) (fun i j hi hj q => h.2.1 i j hi hj (by rw [← (hκ i hi).2, ← (hκ j hj).2, q]))
theorem en_uni {P Q : (Nat → Nat) → Prop} {N M : Nat} {e c : Nat → Nat → Nat} (h : en P N e) (h2 : en Q M c) (hPQ : ∀ f, P f ↔ Q f) : N = M := Nat.le_antisymm (en_le h h2 fun f => (hPQ f).mp) (en_le h2 h fun f => (hPQ f).mpr)
/-- a new one makes it twice as many at least -/
theorem en_dbl {S S2 : (Nat → Nat) → Prop} (hm : ∀ s, S s → pe_m s) {x : Nat → Nat} (xm : pe_m x) (hx : ¬ ge S x) (hs : ∀ s, S s → ge S2 s) (hx2 : ge S2 x) {N M : Nat} {e c : Nat → Nat → Nat} (h : en (ge S) N e) (h2 : en (ge S2) M c) : 2 * N ≤ M := by
  have new : ∀ i j, i < N → j < N → ¬ e i = pe_c x (e j) := fun i j hi hj q => by
    refine hx ?_
    have gj := h.1 j hj
    have := ge_c (h.1 i hi) (ge_i hm gj)
    rw [q] at this
    have e2 : pe_c (pe_c x (e j)) (pe_i (e j)) = x := funext fun p => by
      show x (e j (pe_i (e j) p)) = x p
      rw [pe_i_r (ge_m hm gj)]
    rw [e2] at this
    exact this
  refine en_le (P := fun f => ge S f ∨ ∃ t, ge S t ∧ f = pe_c x t) (e := fun i => if i < N then e i else pe_c x (e (i - N))) ⟨fun i hi => ?_, fun i j hi hj q => ?_, fun f hf => ?_⟩ h2 fun f hf => ?_
  · by_cases c1 : i < N
    · simp only []
      rw [if_pos c1]
      exact Or.inl (h.1 i c1)
    · simp only []
      rw [if_neg c1]
      exact Or.inr ⟨_, h.1 (i - N) (by omega), rfl⟩
  · simp only [] at q
    by_cases c1 : i < N
    · rw [if_pos c1] at q
      by_cases c2 : j < N
      · rw [if_pos c2] at q
        exact h.2.1 i j c1 c2 q
      · rw [if_neg c2] at q
        exact absurd q (new i (j - N) c1 (by omega))
    · rw [if_neg c1] at q
      by_cases c2 : j < N
      · rw [if_pos c2] at q
        exact absurd q.symm (new j (i - N) c2 (by omega))
      · rw [if_neg c2] at q
        have := h.2.1 (i - N) (j - N) (by omega) (by omega) (pe_cc xm q)
        omega
  · rcases hf with hf | ⟨t, ht, hf⟩
    · obtain ⟨i, i1, i2⟩ := h.2.2 f hf
      exact ⟨i, by omega, by simp only []; rw [if_pos i1, i2]⟩
    · obtain ⟨i, i1, i2⟩ := h.2.2 t ht
      exact ⟨i + N, by omega, by simp only []; rw [if_neg (by omega), show i + N - N = i by omega, i2, hf]⟩
  · rcases hf with hf | ⟨t, ht, hf⟩
    · exact ge_sub hs hf
    · rw [hf]
      exact ge_c hx2 (ge_sub hs ht)
/-- the sizes of the last n levels, multiplied -/
def pr (s : Nat → Nat) : Nat → Nat
  | 0 => 1
  | n + 1 => s (23 - n) * pr s n
def su (s : Nat → Nat) : Nat → Nat
  | 0 => 0
  | n + 1 => (s (23 - n) - 1) + su s n
section TN
variable {b : Nat → Nat} {D : Nat → Nat → Prop} {u : Nat → Nat → Nat → Nat} {s : Nat → Nat} {o : Nat → Nat → Nat}
theorem s_bd (h : ta b D u) {k : Nat} (hk : k < 24) (ho : eo (D k) (s k) (o k)) : 1 ≤ s k ∧ s k + k ≤ 24 := by
  have h3 := h.2 k hk
  constructor
  · obtain ⟨a, a1, _⟩ := ho.2.2 _ h3.1
    omega
  · have no : ∀ a i, a < s k → i < k → ¬ o k a = b i := fun a i ha hi q => by
      obtain ⟨_, b2, b3, b4⟩ := h3.2.2 _ (ho.1 a ha)
      have e1 := b4 i hi
      rw [← q] at e1
      have e2 := b3.trans e1.symm
      have := pe_inj b2 e2
      rw [q] at this
      have := h.1.2 k i hk (by omega) this
      omega
    refine inj_le (κ := fun i => if i < s k then o k i else b (i - s k)) (fun i hi => ?_) (fun i j hi hj q => ?_)
    · by_cases c : i < s k
      · rw [if_pos c]
        exact (h3.2.2 _ (ho.1 i c)).1
      · rw [if_neg c]
        exact h.1.1 _ (by omega)
    · by_cases c : i < s k
      · rw [if_pos c] at q
        by_cases c2 : j < s k
        · rw [if_pos c2] at q
          exact ho.2.1 i j c c2 q
        · rw [if_neg c2] at q
          exact absurd q (no i _ c (by omega))
      · rw [if_neg c] at q
        by_cases c2 : j < s k
        · rw [if_pos c2] at q
          exact absurd q.symm (no j _ c2 (by omega))
        · rw [if_neg c2] at q
          have := h.1.2 (i - s k) (j - s k) (by omega) (by omega) q
          omega
theorem pr_pos (h : ta b D u) (ho : ∀ k, k < 24 → eo (D k) (s k) (o k)) : ∀ n, n ≤ 24 → 1 ≤ pr s n
  | 0, _ => Nat.le_refl _
  | n + 1, hn => Nat.mul_pos (s_bd h (by omega) (ho (23 - n) (by omega))).1 (pr_pos h ho n (by omega))
theorem pr_up (h : ta b D u) (ho : ∀ k, k < 24 → eo (D k) (s k) (o k)) {n : Nat} : ∀ m, n + m ≤ 24 → pr s n ≤ pr s (n + m)
  | 0, _ => Nat.le_refl _
  | m + 1, hm => Nat.le_trans (pr_up h ho m (by omega)) (Nat.le_mul_of_pos_left _ (s_bd h (by omega) (ho (23 - (n + m)) (by omega))).1)
theorem st_en (h : ta b D u) (ho : ∀ k, k < 24 → eo (D k) (s k) (o k)) : ∀ n, n ≤ 24 → ∃ e, en (st D u n) (pr s n) e
  | 0, _ => ⟨fun _ => pe_1, fun i _ => rfl, fun i j hi hj _ => by
      have hi : i < 1 := hi
      have hj : j < 1 := hj
      omega, fun f hf => ⟨0, Nat.lt_succ_self 0, (show f = pe_1 from hf).symm⟩⟩
  | n + 1, hn => by
    obtain ⟨e, e1, e2, e3⟩ := st_en h ho n (by omega)
    have h3 := (h.2 (23 - n) (by omega)).2.2
    obtain ⟨o1, o2, o3⟩ := ho (23 - n) (by omega)
    have N0 := pr_pos h ho n (by omega)
    have dv : ∀ i, i < s (23 - n) * pr s n → i / pr s n < s (23 - n) := fun i hi => Nat.div_lt_of_lt_mul (by rw [Nat.mul_comm]; exact hi)
    have md : ∀ i, i % pr s n < pr s n := fun i => Nat.mod_lt _ N0
    have img : ∀ i, i < s (23 - n) * pr s n → u (23 - n) (o (23 - n) (i / pr s n)) (e (i % pr s n) (b (23 - n))) = o (23 - n) (i / pr s n) := fun i hi => by
      rw [(st_ok h n (by omega) _ (e1 _ (md i))).2 (23 - n) (by omega)]
      exact (h3 _ (o1 _ (dv i hi))).2.2.1
    refine ⟨fun i => pe_c (u (23 - n) (o (23 - n) (i / pr s n))) (e (i % pr s n)), fun i hi => ⟨_, _, o1 _ (dv i hi), e1 _ (md i), rfl⟩, fun i j hi hj q => ?_, fun f ⟨q, t, h1, h2, h4⟩ => ?_⟩
    · have q1 := congrFun q (b (23 - n))
      have q1 : u (23 - n) (o (23 - n) (i / pr s n)) (e (i % pr s n) (b (23 - n))) = u (23 - n) (o (23 - n) (j / pr s n)) (e (j % pr s n) (b (23 - n))) := q1
      rw [img i hi, img j hj] at q1
      have d1 := o2 _ _ (dv i hi) (dv j hj) q1
      have q : pe_c (u (23 - n) (o (23 - n) (i / pr s n))) (e (i % pr s n)) = pe_c (u (23 - n) (o (23 - n) (j / pr s n))) (e (j % pr s n)) := q
      rw [d1] at q
      have d2 := e2 _ _ (md i) (md j) (pe_cc (h3 _ (o1 _ (dv j hj))).2.1 q)
      rw [← Nat.div_add_mod i (pr s n), ← Nat.div_add_mod j (pr s n), d1, d2]
    · obtain ⟨a, a1, a2⟩ := o3 q h1
      obtain ⟨c, c1, c2⟩ := e3 t h2
      refine ⟨pr s n * a + c, ?_, ?_⟩
      · have : pr s n * (a + 1) ≤ pr s n * s (23 - n) := Nat.mul_le_mul_left _ a1
        show pr s n * a + c < s (23 - n) * pr s n
        rw [Nat.mul_comm (s (23 - n)), ]
        rw [Nat.mul_succ] at this
        omega
      · have d1 : (pr s n * a + c) / pr s n = a := by rw [Nat.mul_add_div N0, Nat.div_eq_of_lt c1, Nat.add_zero]
        have d2 : (pr s n * a + c) % pr s n = c := by rw [Nat.mul_add_mod, Nat.mod_eq_of_lt c1]
        simp only []
        rw [d1, d2, a2, c2, h4]
theorem su_step {P Q t : Nat} (t1 : 1 ≤ t) (t2 : t ≤ 19) (h1 : Q + 1 ≤ P) (h2 : P ≤ 48 → Q ≤ 19) (h3 : P ≤ 24 → Q ≤ 18) : (t - 1) + Q + 1 ≤ t * P ∧ (t * P ≤ 48 → (t - 1) + Q ≤ 19) ∧ (t * P ≤ 24 → (t - 1) + Q ≤ 18) := by
  have : t = 1 ∨ t = 2 ∨ t = 3 ∨ t = 4 ∨ t = 5 ∨ t = 6 ∨ t = 7 ∨ t = 8 ∨ t = 9 ∨ t = 10 ∨ t = 11 ∨ t = 12 ∨ t = 13 ∨ t = 14 ∨ t = 15 ∨ t = 16 ∨ t = 17 ∨ t = 18 ∨ t = 19 := by omega
  rcases this with e | e | e | e | e | e | e | e | e | e | e | e | e | e | e | e | e | e | e <;> subst e <;> omega
theorem su_19 (h : ta b D u) (ho : ∀ k, k < 24 → eo (D k) (s k) (o k)) : ∀ n, n ≤ 19 → su s n + 1 ≤ pr s n ∧ (pr s n ≤ 48 → su s n ≤ 19) ∧ (pr s n ≤ 24 → su s n ≤ 18)
  | 0, _ => ⟨Nat.le_refl _, fun _ => Nat.zero_le _, fun _ => Nat.zero_le _⟩
  | n + 1, hn => by
    obtain ⟨a1, a2, a3⟩ := su_19 h ho n (by omega)
    have := s_bd h (show 23 - n < 24 by omega) (ho _ (by omega))
    exact su_step this.1 (by omega) a1 a2 a3
theorem su_24 (h : ta b D u) (ho : ∀ k, k < 24 → eo (D k) (s k) (o k)) (h48 : pr s 19 ≤ 48) : su s 24 ≤ 124 := by
  have a := (su_19 h ho 19 (by decide)).2.1 h48
  have b0 := s_bd h (show 0 < 24 by decide) (ho _ (by decide))
  have b1 := s_bd h (show 1 < 24 by decide) (ho _ (by decide))
  have b2 := s_bd h (show 2 < 24 by decide) (ho _ (by decide))
  have b3 := s_bd h (show 3 < 24 by decide) (ho _ (by decide))
  have b4 := s_bd h (show 4 < 24 by decide) (ho _ (by decide))
  have e : su s 24 = (s 0 - 1) + ((s 1 - 1) + ((s 2 - 1) + ((s 3 - 1) + ((s 4 - 1) + su s 19)))) := rfl
  rw [e]
  omega
theorem pr_24 (h : ta b D u) (ho : ∀ k, k < 24 → eo (D k) (s k) (o k)) (h48 : pr s 19 ≤ 48) : pr s 24 < 2 ^ 28 := by
  have b0 := s_bd h (show 0 < 24 by decide) (ho _ (by decide))
  have b1 := s_bd h (show 1 < 24 by decide) (ho _ (by decide))
  have b2 := s_bd h (show 2 < 24 by decide) (ho _ (by decide))
  have b3 := s_bd h (show 3 < 24 by decide) (ho _ (by decide))
  have b4 := s_bd h (show 4 < 24 by decide) (ho _ (by decide))
  have e : pr s 24 = s 0 * (s 1 * (s 2 * (s 3 * (s 4 * pr s 19)))) := rfl
  rw [e]
  have m4 : s 4 * pr s 19 ≤ 20 * 48 := Nat.mul_le_mul (by omega) h48
  have m3 : s 3 * (s 4 * pr s 19) ≤ 21 * (20 * 48) := Nat.mul_le_mul (by omega) m4
  have m2 : s 2 * (s 3 * (s 4 * pr s 19)) ≤ 22 * (21 * (20 * 48)) := Nat.mul_le_mul (by omega) m3
  have m1 : s 1 * (s 2 * (s 3 * (s 4 * pr s 19))) ≤ 23 * (22 * (21 * (20 * 48))) := Nat.mul_le_mul (by omega) m2
  have m0 : s 0 * (s 1 * (s 2 * (s 3 * (s 4 * pr s 19)))) ≤ 24 * (23 * (22 * (21 * (20 * 48)))) := Nat.mul_le_mul (by omega) m1
  exact Nat.lt_of_le_of_lt m0 (by decide)
end TN
