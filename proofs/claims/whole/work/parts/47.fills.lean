/-! THE CLASS'S CODE, IV: words of a weight; leaders -/
section G4
variable {d : Nat} {K : Option Value → am_M → Prop} {I : Nat → Nat → Int32} {Lg : Nat → Nat → Int64} {R : Nat → Nat → Option Nat} {z ss n : Nat}
theorem s_fillWords {w t N : Nat} (hd : 2 ≤ d) (ht : am_ro z t N) (h20 : 21 ≤ z) (hne : ¬ t = 20) (hR : R 19 0 = some 20) (hW : ∀ p, p < 4096 → I 20 p = nI (g_w p)) (hw : w < 25) (hN : (g_ws w 4096).length ≤ N) (h : K none (am_sr I t (am_fl (fun j => nI ((g_ws w 4096).getD j 0)) (I t) (g_ws w 4096).length), Lg, R, z, ss, n)) : am_AC d k_Go_fillWordsOfWeight [.ref 19, .int (nI w), .ref t] (I, Lg, R, z, ss, n) K := by
  obtain ⟨d, rfl, hd1⟩ := s_up hd
  have ro : am_ro z 20 4096 := ⟨rfl, rfl, h20, by decide⟩
  have hN2 : N ≤ 4096 := by rw [← ht.2.1]; exact so_len_le t
  have key : ∀ q, q ≤ 4096 → am_St d k_Go_fillWordsOfWeight (I, Lg, R, z, ss, n) K 16 [some (.ref 19), some (.int (nI w)), some (.ref t), some (.int (nI (g_ws w q).length)), some (.ref 20), some (.int (nI 4096)), some (.int (nI q)), none] [] (am_sr I t (am_fl (fun j => nI ((g_ws w 4096).getD j 0)) (I t) (g_ws w q).length), Lg, R, z, ss, n) := by
    refine lp_up _ (fun q hq ih => ?_) ?_
    · have ih2 : ∀ y : Int32, am_St d k_Go_fillWordsOfWeight (I, Lg, R, z, ss, n) K 16 [some (.ref 19), some (.int (nI w)), some (.ref t), some (.int (nI (g_ws w (q + 1)).length)), some (.ref 20), some (.int (nI 4096)), some (.int (nI (q + 1))), some (.int y)] [] (am_sr I t (am_fl (fun j => nI ((g_ws w 4096).getD j 0)) (I t) (g_ws w (q + 1)).length), Lg, R, z, ss, n) := fun y => am_fg (le_same _ (le_same _ (le_same _ (le_same _ (le_same _ (le_same _ (le_same _ (le_int _ le_nil)))))))) ih
      have e20 : ∀ f, am_sr I t f 20 q = nI (g_w q) := fun f => by
        rw [am_sr_off _ _ (fun e => hne e.symm), hW q hq]
      refine am_step _ _ _ (d_Go_fillWordsOfWeight_16 ⟨fun _ => am_gi ro.g2 ⟨?_, ?_⟩, fun q2 => absurd (nI_lt hq (by decide)) q2⟩)
      · rw [ro.n, n_un (by omega)]
        exact hq
      · rw [n_un (by omega), e20]
        refine s_bitCount hd1 (g_w_lt q) ⟨_, rfl, am_step _ _ _ (d_Go_fillWordsOfWeight_35 ⟨fun q2 => am_gi ht.g1 ⟨fun _ => am_gi ht.g3 ⟨?_, ?_⟩, fun q3 => ?_⟩, fun q2 => ?_⟩)⟩
        · have q2 := (nI_eq (by have := pcn_le 24 _ (g_w_lt q); omega) (by omega)).mp q2
          obtain ⟨a1, a2⟩ := ws_at q2 hq
          have a3 := ws_len w (q := q + 1) (r := 4096) (by omega)
          rw [ht.n, n_un (by omega)]
          omega
        · have q2 := (nI_eq (by have := pcn_le 24 _ (g_w_lt q); omega) (by omega)).mp q2
          obtain ⟨a1, a2⟩ := ws_at q2 hq
          have a3 := ws_len w (q := q + 1) (r := 4096) (by omega)
          have ih3 := ih2 (nI (g_w q))
          rw [a2, ← am_fl_s, a1] at ih3
          rw [n_un (by omega), am_sr_at, am_sr_sr, nI_add, nI_add]
          exact ih3
        · have q2 := (nI_eq (by have := pcn_le 24 _ (g_w_lt q); omega) (by omega)).mp q2
          obtain ⟨a1, a2⟩ := ws_at q2 hq
          have a3 := ws_len w (q := q + 1) (r := 4096) (by omega)
          rw [ht.n] at q3
          exact absurd (nI_lt (by omega) (by omega)) q3
        · have q3 : ¬ pcn (g_w q) = w := fun e => q2 (by rw [e])
          have ih3 := ih2 (nI (g_w q))
          rw [ws_s, if_neg q3] at ih3
          rw [nI_add]
          exact ih3
    · exact am_step _ _ _ (d_Go_fillWordsOfWeight_16 ⟨fun q2 => absurd q2 (by decide), fun _ => h⟩)
  have k0 := key 0 (by decide)
  have e0 : (g_ws w 0).length = 0 := rfl
  rw [e0, am_fl_0, am_sr_id] at k0
  refine am_in _ _ _ (am_step _ _ _ (d_Go_fillWordsOfWeight_0 (am_gi (Nat.ble_eq_true_of_le (by omega)) (am_obi hR (am_gi ro.g1 ?_)))))
  rw [ro.n]
  exact k0
/-- the rest r has its leader -/
def g_Q (f : Nat → Int32) (r : Nat) : Prop := ∃ s, f r = nI s ∧ g_Lp r s
theorem g_Q.put {f : Nat → Int32} {r i s : Nat} (h : g_Q f r) (hs : g_Lp i s) : g_Q (am_u1 f i (nI s)) r := by
  by_cases e : r = i
  · subst e
    exact ⟨s, am_u1_at _ _ _, hs⟩
  · obtain ⟨x, h1, h2⟩ := h
    exact ⟨x, (am_u1_off _ _ e).trans h1, h2⟩
theorem g_Q.new (f : Nat → Int32) {i s : Nat} (hs : g_Lp i s) : g_Q (am_u1 f i (nI s)) i := ⟨s, am_u1_at _ _ _, hs⟩
/-- what stands of the leaders before a, b, c -/
def g_QI (a b c : Nat) (f : Nat → Int32) : Prop := g_Q f 0 ∧ ∀ x y w, x ≤ y → y ≤ w → w < 24 → (x < a ∨ (x = a ∧ (y < b ∨ (y = b ∧ w < c)))) → g_Q f (g_r (g_abc x y w)) ∧ (pcn (g_abc x y w) = 3 → g_Q f (g_r (g_abc x y w ||| 1)))
theorem g_QI.put {a b c i s : Nat} {f : Nat → Int32} (h : g_QI a b c f) (hs : g_Lp i s) : g_QI a b c (am_u1 f i (nI s)) := ⟨h.1.put hs, fun x y w h1 h2 h3 h4 => ⟨(h.2 x y w h1 h2 h3 h4).1.put hs, fun q => ((h.2 x y w h1 h2 h3 h4).2 q).put hs⟩⟩
theorem g_QI.next {a b c : Nat} {f : Nat → Int32} (h : g_QI a b c f) (h1 : g_Q f (g_r (g_abc a b c))) (h2 : pcn (g_abc a b c) = 3 → g_Q f (g_r (g_abc a b c ||| 1))) : g_QI a b (c + 1) f := by
  refine ⟨h.1, fun x y w q1 q2 q3 q4 => ?_⟩
  by_cases e : x = a ∧ y = b ∧ w = c
  · obtain ⟨rfl, rfl, rfl⟩ := e
    exact ⟨h1, h2⟩
  · exact h.2 x y w q1 q2 q3 (by omega)
theorem g_QI.nb {a b : Nat} {f : Nat → Int32} (h : g_QI a b 24 f) : g_QI a (b + 1) (b + 1) f := ⟨h.1, fun x y w q1 q2 q3 q4 => h.2 x y w q1 q2 q3 (by omega)⟩
theorem g_QI.na {a c : Nat} {f : Nat → Int32} (h : g_QI a 24 c f) : g_QI (a + 1) (a + 1) (a + 1) f := ⟨h.1, fun x y w q1 q2 q3 q4 => h.2 x y w q1 q2 q3 (by omega)⟩
theorem g_QI.all {b c : Nat} {f : Nat → Int32} (h : g_QI 24 b c f) : ∀ r, r < 4096 → g_Q f r := by
  intro r hr
  by_cases h0 : r = 0
  · subst h0
    exact h.1
  · obtain ⟨x, y, w, h1, h2, h3, h4⟩ := ld_cov hr h0
    have q := h.2 x y w h1 h2 h3 (Or.inl (by omega))
    rcases h4 with h4 | ⟨h4, h5⟩
    · rw [← h4]
      exact q.1
    · rw [← h5]
      exact q.2 h4
theorem s_fillLeaders (hd : 3 ≤ d) (hz : 24 ≤ z) (hR0 : R 19 0 = some 20) (hR3 : R 19 3 = some 23) (hW : ∀ p, p < 4096 → I 20 p = nI (g_w p)) (h0 : I 23 0 = nI 0) (h : ∀ f, (∀ r, r < 4096 → g_Q f r) → K none (am_sr I 23 f, Lg, R, z, ss, n)) : am_AC d k_Go_fillLeaders [.ref 19] (I, Lg, R, z, ss, n) K := by
  obtain ⟨d, rfl, hd1⟩ := s_up hd
  have ro : am_ro z 23 4096 := ⟨rfl, rfl, hz, by decide⟩
  have hW2 : ∀ f, ∀ p, p < 4096 → am_sr I 23 f 20 p = nI (g_w p) := fun f p hp => by
    rw [am_sr_off _ _ (by decide), hW p hp]
  have ka : ∀ a, a ≤ 24 → ∀ f, g_QI a a a f → am_St d k_Go_fillLeaders (I, Lg, R, z, ss, n) K 2 [some (.ref 19), some (.int (nI a)), none, none, none] [] (am_sr I 23 f, Lg, R, z, ss, n) := by
    refine lp_up _ (fun a ha iha => ?_) ?_
    · have kb : ∀ b, b ≤ 24 → a ≤ b → ∀ f, g_QI a b b f → am_St d k_Go_fillLeaders (I, Lg, R, z, ss, n) K 10 [some (.ref 19), some (.int (nI a)), some (.int (nI b)), none, none] [] (am_sr I 23 f, Lg, R, z, ss, n) := by
        refine lp_up _ (fun b hb ihb => ?_) ?_
        · intro hab
          have kc : ∀ c, c ≤ 24 → b ≤ c → ∀ f, g_QI a b c f → am_St d k_Go_fillLeaders (I, Lg, R, z, ss, n) K 18 [some (.ref 19), some (.int (nI a)), some (.int (nI b)), some (.int (nI c)), none] [] (am_sr I 23 f, Lg, R, z, ss, n) := by
            refine lp_up _ (fun c hc ihc => ?_) ?_
            · intro hbc f hf
              have hs := abc_lt ha hb hc
              have hp := lp_abc hab hbc hc
              have ihx : ∀ f, g_QI a b (c + 1) f → ∀ y : Int32, am_St d k_Go_fillLeaders (I, Lg, R, z, ss, n) K 18 [some (.ref 19), some (.int (nI a)), some (.int (nI b)), some (.int (nI (c + 1))), some (.int y)] [] (am_sr I 23 f, Lg, R, z, ss, n) := fun f hf y => am_fg (le_same _ (le_same _ (le_same _ (le_same _ (le_int _ le_nil))))) (ihc (by omega) f hf)
              have es : ((nI 1 <<< (nI a &&& 31)) ||| (nI 1 <<< (nI b &&& 31))) ||| (nI 1 <<< (nI c &&& 31)) = nI (g_abc a b c) := by
                rw [n_p2 (by omega), n_p2 (by omega), n_p2 (by omega), n_or, n_or]
                rfl
              refine am_step _ _ _ (d_Go_fillLeaders_18 ⟨fun _ => am_gi (Nat.ble_eq_true_of_le (by omega)) (am_obi hR3 (am_gi (am_ba (am_ba (Nat.ble_eq_true_of_le (by omega)) rfl) rfl) ?_)), fun q2 => absurd (nI_lt hc (by decide)) q2⟩)
              rw [es]
              refine s_rest (W := g_w) hd1 (Nat.lt_trans hs (by decide)) (by omega) hR0 (hW2 f) ⟨_, rfl, am_step _ _ _ (d_Go_fillLeaders_47 (am_gi ro.g3 ⟨?_, ?_⟩))⟩
              · rw [ro.n]
                show am_un (nI (g_r (g_abc a b c))) < 4096
                rw [n_un (Nat.lt_trans (g_r_lt _) (by decide))]
                exact g_r_lt _
              · show am_AC d k_J_bitCount _ (am_sr (am_sr I 23 f) 23 (am_u1 (am_sr I 23 f 23) (am_un (nI (g_r (g_abc a b c)))) _), Lg, R, z, ss, n) _
                rw [n_un (Nat.lt_trans (g_r_lt _) (by decide)), am_sr_at, am_sr_sr]
                have hf1 := hf.put hp
                have hn := g_Q.new f hp
                refine s_bitCount (by omega) hs ⟨_, rfl, am_step _ _ _ (d_Go_fillLeaders_55 ⟨fun q2 => am_gi (Nat.ble_eq_true_of_le (by omega)) (am_obi hR3 (am_gi (am_ba (am_ba (Nat.ble_eq_true_of_le (by omega)) rfl) rfl) ?_)), fun q2 => ?_⟩)⟩
                · have q3 := (nI_eq (by have := pcn_le 24 _ hs; omega) (by decide)).mp q2
                  have hp1 := lp_abc1 hab hbc hc q3
                  rw [n_or]
                  refine s_rest (W := g_w) hd1 (Nat.lt_trans hp1.1 (by decide)) (by omega) hR0 (hW2 _) ⟨_, rfl, am_step _ _ _ (d_Go_fillLeaders_71 (am_gi ro.g3 ⟨?_, ?_⟩))⟩
                  · rw [ro.n]
                    show am_un (nI (g_r (g_abc a b c ||| 1))) < 4096
                    rw [n_un (Nat.lt_trans (g_r_lt _) (by decide))]
                    exact g_r_lt _
                  · show am_St d _ _ K 18 _ _ (am_sr (am_sr I 23 (am_u1 f (g_r (g_abc a b c)) (nI (g_abc a b c)))) 23 (am_u1 (am_sr I 23 (am_u1 f (g_r (g_abc a b c)) (nI (g_abc a b c))) 23) (am_un (nI (g_r (g_abc a b c ||| 1)))) _), Lg, R, z, ss, n)
                    rw [n_un (Nat.lt_trans (g_r_lt _) (by decide)), am_sr_at, am_sr_sr, nI_add, n_or]
                    exact ihx _ ((hf1.put hp1).next (hn.put hp1) fun _ => g_Q.new _ hp1) _
                · rw [nI_add]
                  exact ihx _ (hf1.next hn fun q3 => absurd (by rw [q3]) q2) _
            · intro hbc f hf
              refine am_step _ _ _ (d_Go_fillLeaders_18 ⟨fun q2 => absurd q2 (by decide), fun _ => ?_⟩)
              rw [nI_add]
              exact am_fg (le_same _ (le_same _ (le_same _ (le_int _ (le_same _ le_nil))))) (ihb (by omega) f hf.nb)
          intro f hf
          exact am_step _ _ _ (d_Go_fillLeaders_10 ⟨fun _ => kc b (by omega) (Nat.le_refl _) f hf, fun q2 => absurd (nI_lt hb (by decide)) q2⟩)
        · intro hab f hf
          refine am_step _ _ _ (d_Go_fillLeaders_10 ⟨fun q2 => absurd q2 (by decide), fun _ => ?_⟩)
          rw [nI_add]
          exact am_fg (le_same _ (le_same _ (le_int _ (le_same _ (le_same _ le_nil))))) (iha f hf.na)
      intro f hf
      exact am_step _ _ _ (d_Go_fillLeaders_2 ⟨fun _ => kb a (by omega) (Nat.le_refl _) f hf, fun q2 => absurd (nI_lt ha (by decide)) q2⟩)
    · intro f hf
      exact am_step _ _ _ (d_Go_fillLeaders_2 ⟨fun q2 => absurd q2 (by decide), fun _ => h f hf.all⟩)
  have k0 := ka 0 (by decide) (I 23) ⟨⟨0, h0, by decide, g_r_0, Or.inl (by rw [pcn_0]; decide)⟩, fun x y w q1 q2 q3 q4 => by omega⟩
  rw [am_sr_id] at k0
  exact am_in _ _ _ (am_step _ _ _ (d_Go_fillLeaders_0 k0))
end G4
