/-! FROM THE LAW'S ENTRY TO ITS LOOP -/
/-- what stands at the start -/
def vs (J : Nat → Nat → Int32) (L : Nat → Nat → Int64) : Prop := (∃ I0 I1 L1 Q1, xf I0 I1 L1 Q1 ∧ mf I1 J) ∧ ∀ b, b < 1497 → L b = fun _ => 0
theorem st_v_n : ∀ j, j < 11 → st_v.getD j 0 = nI (g_st j) := by decide +kernel
theorem lw_start {xs : Nat → Int32} {n : Nat} (h : ∀ J L, vs J L → am_WP am_mt (am_AC 100) tb_257 1497 78378 (fun v _ => v = some (.int 1)) 18 [some (.ref 0), some (.ref 12), some (.ref 1469), some (.int (nI 0))] [] (am_st J L rr0 n)) :
    am_WP am_mt (am_AC 100) tb_257 1497 78378 (fun v _ => v = some (.int 1)) 0 [some (.ref 0), none, none, none] [] ((fun a j => if a = 0 then xs j else st_v.getD j 0), (fun _ _ => 0), (fun _ _ => none), 12, 0, n) := by
  refine am_go (am_AC_mono 100) [7, 15, 18] 400 (d_L_law_0 (am_gi rfl ⟨⟨?_, ?_⟩, ⟨?_, ?_⟩, ?_⟩))
  · show 12 + 1 ≤ 1497
    decide
  · show 0 + 11 ≤ 78378
    decide
  · show 12 + 1 + 1456 ≤ 1497
    decide
  · show 0 + 11 + 59075 ≤ 78378
    decide
  · refine s_X_init (by decide) (fun j hj => ?_) ?_ (fun b => ?_) (fun b => ?_) (fun J L Q hX s hs => ⟨rfl, ?_⟩)
    · rw [am_sr_off _ _ (by decide)]
      exact st_v_n j hj
    · rw [am_sr_at]
    · by_cases e : b = 12
      · subst e
        rw [am_sr_at]
      · rw [am_sr_off _ _ e]
    · by_cases e : b = 12
      · subst e
        rw [am_sr_at]
      · rw [am_sr_off _ _ e]
    · have hs2 : s = 59086 := hs
      subst hs2
      have hX2 := hX
      obtain ⟨h1, h2, h3, h4, h5, h6, h7, h8, h9, h10, h11, h12⟩ := hX2
      have hX3 : xf (am_sr (fun a j => if a = 0 then xs j else st_v.getD j 0) 12 fun _ => 0) (am_sr J 1469 fun _ => 0) L Q := by
        refine ⟨fun b hb => ?_, ?_, fun m hm x hx => ?_, ?_, fun m hm x hx => ?_, ?_, ?_, fun b b1 b2 b3 b4 => ?_, fun k hk => ?_, h10, h11, h12⟩
        · rw [am_sr_off _ _ (by omega), h1 b hb]
        · rw [am_sr_off _ _ (by decide), h2]
        · rw [am_sr_off _ _ (by omega), h3 m hm x hx]
        · exact h4.kept fun b b1 b2 => am_sr_off _ _ (by omega)
        · rw [am_sr_off _ _ (by omega), h5 m hm x hx]
        · rw [am_sr_off _ _ (by decide), h6]
        · rw [am_sr_off _ _ (by decide), h7]
        · rw [am_sr_off _ _ (by omega), h8 b b1 b2 b3 b4]
        · rw [am_sr_off _ _ (by decide), h9 k hk]
      refine am_go (am_AC_mono 100) [7, 15, 18] 400 (d_L_law_7 (am_gi rfl ⟨⟨?_, ?_⟩, ⟨?_, ?_⟩, ?_⟩))
      · show 1469 + 1 ≤ 1497
        decide
      · show 59086 + 37 ≤ 78378
        decide
      · show 1469 + 1 + 27 ≤ 1497
        decide
      · show 59086 + 37 + 19255 ≤ 78378
        decide
      · refine s_M_init (by decide) ?_ (fun b hb => ?_) (fun b hb => ?_) ?_ (fun b hb => ?_) (fun J2 L2 hM hL2 => ⟨rfl, am_go (am_AC_mono 100) [7, 15, 18] 400 (d_L_law_15 (h J2 L2 ⟨⟨_, _, _, _, hX3, hM⟩, hL2⟩))⟩)
        · rw [am_sr_at]
        · by_cases e : b = 1469
          · subst e
            rw [am_sr_at]
          · rw [am_sr_off _ _ e, h10 b (by omega)]
        · rw [am_sr_off _ _ (by omega), h11 b hb]
        · rw [am_sr_at]
        · rw [am_sr_off _ _ (by omega), h12 b (by omega)]
