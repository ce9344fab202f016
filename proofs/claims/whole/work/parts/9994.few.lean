/-! AT MOST 48 THAT KEEP THE CODE LEAVE FIVE PLACES -/
theorem im_comp {f g : Nat → Nat} (hf : ∀ p, p < 24 → f p < 24) (s : Nat) : g_im (pe_c g f) s 24 = g_im g (g_im f s 24) 24 := Nat.eq_of_testBit_eq fun j => Bool.eq_iff_iff.mpr (by
  rw [im_tb, im_tb]
  constructor
  · intro ⟨p, h1, h2, h3⟩
    exact ⟨f p, hf p h1, (im_tb f s (f p) 24).mpr ⟨p, h1, h2, rfl⟩, h3⟩
  · intro ⟨r, h1, h2, h3⟩
    obtain ⟨p, q1, q2, q3⟩ := (im_tb f s r 24).mp h2
    refine ⟨p, q1, q2, ?_⟩
    show g (f p) = j
    rw [q3, h3])
theorem pvb_c {f g : Nat → Nat} (hg : a_pm g) (kg : g_pvb g = true) (hf : a_pm f) (kf : g_pvb f = true) : g_pvb (pe_c g f) = true := (pvq_b 12).mpr fun k hk => by
  rw [im_comp hf.1]
  exact im_isw hg kg ((pvq_b 12).mp kf k hk)
theorem pvb_1 : g_pvb pe_1 = true := by decide +kernel
theorem kc_ge {S : (Nat → Nat) → Prop} (hS : ∀ s, S s → pe_m s ∧ g_pvb s = true) {f : Nat → Nat} (hf : ge S f) : pe_m f ∧ g_pvb f = true := hf (fun f => pe_m f ∧ g_pvb f = true) ⟨pe_1_m, pvb_1⟩ fun s f hs q => ⟨pe_c_m (hS s hs).1 q.1, pvb_c (hS s hs).1.1 (hS s hs).2 q.1.1 q.2⟩
theorem pvb_i {f : Nat → Nat} (fm : pe_m f) (hk : g_pvb f = true) : g_pvb (pe_i f) = true := (kc_ge (S := fun s => s = f) (fun s e => by rw [e]; exact ⟨fm, hk⟩) (ge_i (fun s e => by rw [e]; exact fm) (ge_of rfl))).2
theorem pvb_n {f : Nat → Nat} (hk : g_pvb f = true) : g_pvb (pe_n f) = true := (pvq_b 12).mpr fun k hk2 => by
  have e : g_im (pe_n f) (g_B k) 24 = g_im f (g_B k) 24 := Nat.eq_of_testBit_eq fun j => Bool.eq_iff_iff.mpr (by
    rw [im_tb, im_tb]
    constructor
    · intro ⟨p, h1, h2, h3⟩
      exact ⟨p, h1, h2, by rw [← pe_at (f := f) h1]; exact h3⟩
    · intro ⟨p, h1, h2, h3⟩
      exact ⟨p, h1, h2, by rw [pe_at h1]; exact h3⟩)
  rw [e]
  exact (pvq_b 12).mp hk k hk2
theorem cnt_tb : ∀ q s, s < 2 ^ q → g_cnt (fun p => s.testBit p) q = pcn s
  | 0, s, hs => by
    have : s = 0 := by omega
    subst this
    rw [pcn_0]
    rfl
  | q + 1, s, hs => by
    rw [cnt_s]
    by_cases c : s.testBit q = true
    · rw [if_pos c]
      have h1 : (s ^^^ 2 ^ q).testBit q = false := by rw [Nat.testBit_xor, c, tb_p2, decide_eq_true rfl]; rfl
      have h2 := pcn_flip q _ h1
      rw [Nat.xor_assoc, Nat.xor_self, Nat.xor_zero] at h2
      rw [h2, ← cnt_tb q _ (tb_top hs c)]
      exact congrArg (· + 1) (cnt_congr q fun j hj => by
        rw [Nat.testBit_xor, tb_p2, decide_eq_false (show ¬ q = j by omega), Bool.xor_false])
    · rw [if_neg c]
      exact cnt_tb q s (tb_top0 hs c)
section B48
variable {b : Nat → Nat} {D : Nat → Nat → Prop} {u : Nat → Nat → Nat → Nat} {s : Nat → Nat} {o : Nat → Nat → Nat}
theorem st_kc (h : ta b D u) (hk : ∀ k q, k < 24 → D k q → g_pvb (u k q) = true) : ∀ n, n ≤ 24 → ∀ f, st D u n f → g_pvb f = true
  | 0, _, f, e => by
    have e : f = pe_1 := e
    rw [e]
    exact pvb_1
  | n + 1, hn, f, ⟨q, t, h1, h2, e⟩ => by
    rw [e]
    exact pvb_c ((h.2 _ (by omega)).2.2 q h1).2.1.1 (hk _ q (by omega) h1) (st_ok h n (by omega) t h2).1.1 (st_kc h hk n (by omega) t h2)
theorem b48 (h : ta b D u) (ho : ∀ k, k < 24 → eo (D k) (s k) (o k)) (hk : ∀ k q, k < 24 → D k q → g_pvb (u k q) = true) : pr s 19 ≤ 48 := by
  have nb : ∀ i j, i < 24 → j < 24 → ¬ i = j → ¬ b i = b j := fun i j hi hj q e => q (h.1.2 i j hi hj e)
  have lb : ∀ i, i < 24 → b i < 24 := h.1.1
  have n1 : ¬ b 1 = b 0 := nb 1 0 (by decide) (by decide) (by decide)
  have n2 : ¬ b 2 = b 0 ∧ ¬ b 2 = b 1 := ⟨nb 2 0 (by decide) (by decide) (by decide), nb 2 1 (by decide) (by decide) (by decide)⟩
  have n3 : ¬ b 3 = b 0 ∧ ¬ b 3 = b 1 ∧ ¬ b 3 = b 2 := ⟨nb 3 0 (by decide) (by decide) (by decide), nb 3 1 (by decide) (by decide) (by decide), nb 3 2 (by decide) (by decide) (by decide)⟩
  have n4 : ¬ b 4 = b 0 ∧ ¬ b 4 = b 1 ∧ ¬ b 4 = b 2 ∧ ¬ b 4 = b 3 := ⟨nb 4 0 (by decide) (by decide) (by decide), nb 4 1 (by decide) (by decide) (by decide), nb 4 2 (by decide) (by decide) (by decide), nb 4 3 (by decide) (by decide) (by decide)⟩
  obtain ⟨O, hO, t0, t1, t2, t3, t4⟩ := oc5 ⟨lb 0 (by decide), lb 1 (by decide), lb 2 (by decide), lb 3 (by decide), lb 4 (by decide)⟩ n1 n2 n3 n4
  have F5 := pcn5 n1 n2 n3 n4
  have ol := io_lt hO
  have hF : ∀ p, (g_5 (b 0) (b 1) (b 2) (b 3) (b 4)).testBit p = true → ∃ i, i < 5 ∧ p = b i := fun p hp => by
    rcases tb5.mp hp with e | e | e | e | e
    · exact ⟨0, by decide, e⟩
    · exact ⟨1, by decide, e⟩
    · exact ⟨2, by decide, e⟩
    · exact ⟨3, by decide, e⟩
    · exact ⟨4, by decide, e⟩
  have hF2 : ∀ i, i < 5 → (g_5 (b 0) (b 1) (b 2) (b 3) (b 4)).testBit (b i) = true := fun i hi => tb5.mpr (by
    have : i = 0 ∨ i = 1 ∨ i = 2 ∨ i = 3 ∨ i = 4 := by omega
    rcases this with e | e | e | e | e
    · exact Or.inl (by rw [e])
    · exact Or.inr (Or.inl (by rw [e]))
    · exact Or.inr (Or.inr (Or.inl (by rw [e])))
    · exact Or.inr (Or.inr (Or.inr (Or.inl (by rw [e]))))
    · exact Or.inr (Or.inr (Or.inr (Or.inr (by rw [e])))))
  have FO : g_sub (g_5 (b 0) (b 1) (b 2) (b 3) (b 4)) O := sub_tb.mpr fun p hp => by
    rcases tb5.mp hp with e | e | e | e | e <;> rw [e] <;> assumption
  generalize hFe : g_5 (b 0) (b 1) (b 2) (b 3) (b 4) = F at *
  have A3 := (pcn_sub FO).2
  have AL : F ^^^ O < 2 ^ 24 := xor_lt (Nat.lt_of_le_of_lt (by rw [← show F &&& O = F from FO]; exact Nat.and_le_right) ol) ol
  have OA : g_sub O 16777215 := sub_tb.mpr fun p hp => by
    rw [show (16777215 : Nat) = 2 ^ 24 - 1 from rfl, Nat.testBit_two_pow_sub_one]
    exact decide_eq_true (tb_lt ol hp)
  have B16 := (pcn_sub OA).2
  have e24 : pcn 16777215 = 24 := by
    rw [← bc_eq (by decide)]
    decide +kernel
  have BL : O ^^^ 16777215 < 2 ^ 24 := xor_lt ol (by decide)
  rw [F5, hO.2] at A3
  rw [e24, hO.2] at B16
  obtain ⟨oA, a1, a2, a3⟩ := eo_cnt (fun p => (F ^^^ O).testBit p) 24
  obtain ⟨oB, b1, b2, b3⟩ := eo_cnt (fun p => (O ^^^ 16777215).testBit p) 24
  rw [cnt_tb 24 _ AL, A3] at a1 a2 a3
  rw [cnt_tb 24 _ BL, B16] at b1 b2 b3
  have hA : ∀ p, (F ^^^ O).testBit p = true ↔ O.testBit p = true ∧ F.testBit p = false := fun p => by
    rw [Nat.testBit_xor]
    have := sub_tb.mp FO p
    cases c : O.testBit p <;> cases c2 : F.testBit p <;> simp_all
  have hB : ∀ p, p < 24 → ((O ^^^ 16777215).testBit p = true ↔ O.testBit p = false) := fun p hp => by
    rw [Nat.testBit_xor, show (16777215 : Nat) = 2 ^ 24 - 1 from rfl, Nat.testBit_two_pow_sub_one, decide_eq_true hp]
    cases O.testBit p <;> decide
  have x1 := a1 0 (by decide)
  have v1 := b1 0 (by decide)
  have y1 := a1 1 (by decide)
  have z1 := a1 2 (by decide)
  have vO := (hB _ v1.1).mp v1.2
  have xO := (hA _).mp x1.2
  have yO := (hA _).mp y1.2
  have zO := (hA _).mp z1.2
  have yz : ¬ oA 1 = oA 2 := fun q => absurd (a2 1 2 (by decide) (by decide) q) (by decide)
  have good : ∀ f, st D u 19 f → pe_m f ∧ fx b 5 f ∧ g_pvb f = true := fun f hf => by
    obtain ⟨f1, f2⟩ := st_ok h 19 (by decide) f hf
    exact ⟨f1, f2, st_kc h hk 19 (by decide) f hf⟩
  have onO : ∀ f, pe_m f → fx b 5 f → g_pvb f = true → ∀ p, p < 24 → O.testBit (f p) = O.testBit p := fun f f1 f2 f3 p hp => by
    have iQ : g_io (g_im f O 24) := ⟨im_isw f1.1 f3 hO.1, by rw [im_pcn f1.1 24 (Nat.le_refl _) _ ol, hO.2]⟩
    have e := io_uni iQ hO (sub_tb.mpr fun j hj => by
      obtain ⟨i, i1, i2⟩ := hF j hj
      have := im_at f1.1 (s := O) (p := j) (by rw [i2]; exact lb i (by omega))
      rw [i2, f2 i i1] at this
      rw [i2, this]
      exact sub_tb.mp FO _ (hF2 i i1)) FO (by omega)
    have := im_at f1.1 (s := O) hp
    rw [e] at this
    exact this
  obtain ⟨e, e1, e2, e3⟩ := st_en h ho 19 (by decide)
  obtain ⟨κ, hκ⟩ := Classical.axiomOfChoice (r := fun (i : Nat) (k : Nat) => i < pr s 19 → k < 48 ∧ oA (k / 16) = e i (oA 0) ∧ oB (k % 16) = e i (oB 0)) (fun i => by
    by_cases q : i < pr s 19
    · obtain ⟨f1, f2, f3⟩ := good _ (e1 i q)
      have xi : (F ^^^ O).testBit (e i (oA 0)) = true := (hA _).mpr ⟨by rw [onO _ f1 f2 f3 _ x1.1, xO.1], Bool.eq_false_iff.mpr fun hf => by
        obtain ⟨j, j1, j2⟩ := hF _ hf
        have := pe_inj f1 (j2.trans (f2 j j1).symm)
        have h9 := hF2 j j1
        rw [← this, xO.2] at h9
        cases h9⟩
      have vi : (O ^^^ 16777215).testBit (e i (oB 0)) = true := (hB _ (f1.1.1 _ v1.1)).mpr (by rw [onO _ f1 f2 f3 _ v1.1, vO])
      obtain ⟨a, p1, p2⟩ := a3 _ ⟨f1.1.1 _ x1.1, xi⟩
      obtain ⟨c, q1, q2⟩ := b3 _ ⟨f1.1.1 _ v1.1, vi⟩
      refine ⟨16 * a + c, fun _ => ⟨by omega, ?_, ?_⟩⟩
      · rw [show (16 * a + c) / 16 = a by omega, p2]
      · rw [show (16 * a + c) % 16 = c by omega, q2]
    · exact ⟨0, fun a => absurd a q⟩)
  refine inj_le (fun i hi => (hκ i hi).1) (fun i j hi hj q => e2 i j hi hj ?_)
  obtain ⟨_, i2, i3⟩ := hκ i hi
  obtain ⟨_, j2, j3⟩ := hκ j hj
  rw [q] at i2 i3
  have ex : e i (oA 0) = e j (oA 0) := i2.symm.trans j2
  have ev : e i (oB 0) = e j (oB 0) := i3.symm.trans j3
  obtain ⟨f1, f2, f3⟩ := good _ (e1 i hi)
  obtain ⟨g1, g2, g3⟩ := good _ (e1 j hj)
  have hm := pe_c_m (pe_i_m g1) f1
  have hx := fx_c (fx_i g1 g2) f2
  have hp := pvb_c (pe_i_m g1).1 (pvb_i g1 g3) f1.1 f3
  have sx : pe_c (pe_i (e j)) (e i) (oA 0) = oA 0 := by
    show pe_i (e j) (e i (oA 0)) = oA 0
    rw [ex, pe_i_l g1]
  have sv : pe_c (pe_i (e j)) (e i) (oB 0) = oB 0 := by
    show pe_i (e j) (e i (oB 0)) = oB 0
    rw [ev, pe_i_l g1]
  have all := k7 hm.1 hp hO yO.1 zO.1 yz vO v1.1 sv (fun p pO py pz => by
    cases c : F.testBit p
    · obtain ⟨a, q1, q2⟩ := a3 p ⟨tb_lt ol pO, (hA p).mpr ⟨pO, c⟩⟩
      have : a = 0 ∨ a = 1 ∨ a = 2 := by omega
      rcases this with e | e | e
      · rw [← q2, e, sx]
      · rw [e] at q2
        exact absurd q2.symm py
      · rw [e] at q2
        exact absurd q2.symm pz
    · obtain ⟨k, k1, k2⟩ := hF p c
      rw [k2]
      exact hx k k1)
  refine pe_ext f1 g1 fun p hp => ?_
  have := congrArg (e j) (all p hp)
  rw [← this]
  exact (pe_i_r g1 (e i p)).symm
end B48
