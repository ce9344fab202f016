/-! TEXTS, IN THE CODE, II -/
section TD
variable {d : Nat} {K : Option Value → am_M → Prop} {I : Nat → Nat → Int32} {Lg : Nat → Nat → Int64} {rr : Nat → Nat → Option Nat} {n : Nat} {f : Nat → Nat} {a m : Nat} {G : (Nat → Nat → Int32) → Prop}
theorem tx_mono {l : Nat → Nat} : ∀ j p, (g_tx f l p).length ≤ (g_tx f l (p + j)).length
  | 0, p => Nat.le_refl _
  | j + 1, p => by
    refine Nat.le_trans (tx_mono j p) ?_
    show _ ≤ (if g_lsb f (p + j) = true ∧ ¬ f (p + j) = p + j then g_tx f l (p + j) ++ g_rg f (p + j) (l (p + j)) else g_tx f l (p + j)).length
    split
    · rw [List.length_append]
      omega
    · exact Nat.le_refl _
theorem s_write {l : Nat → Nat} (hd : 4 ≤ d) (ha : am_ro 1497 a 24) (hI : ∀ p, p < 24 → I a p = nI (f p)) (hf : a_pm f) (hl : ∀ p, p < 24 → g_ps f p (l p)) (ha2 : ¬ a = 1465 ∧ ¬ a = 1466) (h : ∀ J, tx_T J 1466 1465 1 (g_tx f l 24) → tx_X I J → K (some (.int (nI (g_tx f l 24).length))) (am_st J Lg rr n)) : am_AC d k_Cy_write [.ref 1465, .ref a] (am_st I Lg rr n) K := by
  obtain ⟨d, rfl, hd1⟩ := s_up hd
  have hIJ : ∀ J, tx_X I J → ∀ p, p < 24 → J a p = nI (f p) := fun J hX p hp => by rw [hX a ha2.1 ha2.2, hI p hp]
  have key : ∀ p, p ≤ 24 → ∀ J, tx_T J 1466 1465 1 (g_tx f l p) → tx_X I J → am_St d k_Cy_write (am_st I Lg rr n) K 7 [some (.ref 1465), some (.ref a), some (.int (nI p))] [] (am_st J Lg rr n) := by
    refine lp_up _ (fun p hp ih => ?_) ?_
    · intro J hJ hX
      have lt := hf.1 p hp
      have skip : ¬ (g_lsb f p = true ∧ ¬ f p = p) → ∀ J, tx_T J 1466 1465 1 (g_tx f l p) → tx_X I J → am_St d k_Cy_write (am_st I Lg rr n) K 36 [some (.ref 1465), some (.ref a), some (.int (nI p))] [] (am_st J Lg rr n) := by
        intro c J hJ hX
        have e2 : g_tx f l (p + 1) = g_tx f l p := if_neg c
        rw [e2] at ih
        refine am_step _ _ _ (b_Cy_write_36 ?_)
        rw [nI_add]
        exact ih J hJ hX
      refine am_step _ _ _ (b_Cy_write_7 ⟨fun _ => s_Mo_to (by omega) ha hp (hIJ J hX p hp) ⟨_, rfl, am_step _ _ _ (b_Cy_write_18 ⟨fun q => ?_, fun q => ?_⟩)⟩, fun q => absurd (nI_lt hp (by decide)) q⟩)
      · rw [nI_eq (by omega) (by omega)] at q
        exact skip (fun c => c.2 q) J hJ hX
      · have q : ¬ f p = p := fun e => q (by rw [e])
        refine s_isLowest (by omega) ha (hIJ J hX) hf hp ⟨_, rfl, am_step _ _ _ (b_Cy_write_27 ?_)⟩
        cases hb : g_lsb f p
        · exact ⟨fun _ => skip (fun c => by rw [hb] at c; cases c.1) J hJ hX, fun q => absurd rfl q⟩
        · have e2 : g_tx f l (p + 1) = g_tx f l p ++ g_rg f p (l p) := if_pos ⟨hb, q⟩
          have l74 := tx_74 hf hl (show p + 1 ≤ 24 by omega)
          rw [e2] at ih l74
          refine ⟨fun q => absurd q (by decide), fun _ => s_writeCycle hd1 ha hI hf hp (hl p hp) ha2 hJ hX l74 (fun J hJ hX => ⟨rfl, am_step _ _ _ (b_Cy_write_36 ?_)⟩)⟩
          rw [nI_add]
          exact ih J hJ hX
    · intro J hJ hX
      refine am_step _ _ _ (b_Cy_write_7 ⟨fun q => absurd q (by decide), fun _ => ?_⟩)
      rw [hJ.1]
      exact h J hJ hX
  refine am_in _ _ _ (am_step _ _ _ (b_Cy_write_0 (key 0 (by decide) _ ⟨?_, fun k hk => absurd hk (Nat.not_lt_zero k)⟩ (fun b b1 _ => am_sr_off _ _ b1))))
  rw [am_sr_at, am_u1_at]
  rfl
theorem s_putsRing {t : List Nat} {p l : Nat} {J : Nat → Nat → Int32} (hd : 3 ≤ d) (hm : m < 5) (hI : ∀ p, p < 24 → I 1470 (24 * m + p) = nI (f p)) (hf : a_pm f) (hp : p < 24) (hl : g_ps f p l) (hJ : tx_T J 1475 1469 7 t) (hX : tx_M I J) (ht : (t ++ g_rg f p l).length ≤ 74) (h : ∀ J, tx_T J 1475 1469 7 (t ++ g_rg f p l) → tx_M I J → K none (am_st J Lg rr n)) : am_AC d k_M_putsRing [.ref 1469, .int (nI m), .int (nI p)] (am_st J Lg rr n) K := by
  obtain ⟨d, rfl, hd1⟩ := s_up hd
  obtain ⟨JJ, eJJ⟩ : ∃ JJ, JJ = J := ⟨J, rfl⟩
  have hIJ : ∀ J, tx_M I J → ∀ p, p < 24 → J 1470 (24 * m + p) = nI (f p) := fun J hX p hp => by rw [hX.1 1470 (by decide) (by decide), hI p hp]
  have l1 := hl.1
  have l24 := hl.2.1
  -- as far as i places, with the sign behind
  let M : Nat → List Nat := fun i => if i = 0 then t ++ [40] else if i < l then t ++ g_ct2 f p i ++ [44] else t ++ g_rg f p l
  have M0 : M 0 = t ++ [40] := rfl
  have Ml : M l = t ++ g_rg f p l := by
    show (if l = 0 then _ else if l < l then _ else _) = _
    rw [if_neg (by omega), if_neg (Nat.lt_irrefl l)]
  have Ms : ∀ i, i < l → M (i + 1) = M i ++ g_dg (f_it f p i) ++ [if i + 1 < l then 44 else 41] := by
    intro i hi
    have e2 : g_ct2 f p (i + 1) = g_ct2 f p i ++ [if i = 0 then 40 else 44] ++ g_dg (f_it f p i) := rfl
    show (if i + 1 = 0 then t ++ [40] else if i + 1 < l then t ++ g_ct2 f p (i + 1) ++ [44] else t ++ g_rg f p l) = (if i = 0 then t ++ [40] else if i < l then t ++ g_ct2 f p i ++ [44] else t ++ g_rg f p l) ++ g_dg (f_it f p i) ++ [if i + 1 < l then 44 else 41]
    rw [if_neg (by omega)]
    have eM : (if i = 0 then t ++ [40] else if i < l then t ++ g_ct2 f p i ++ [44] else t ++ g_rg f p l) = t ++ g_ct2 f p i ++ [if i = 0 then 40 else 44] := by
      by_cases c : i = 0
      · rw [if_pos c, if_pos c, c]
        show _ = t ++ [] ++ [40]
        rw [List.append_nil]
      · rw [if_neg c, if_neg c, if_pos hi]
    rw [eM]
    by_cases c : i + 1 < l
    · rw [if_pos c, if_pos c, e2]
      simp only [List.append_assoc]
    · rw [if_neg c, if_neg c]
      have : l = i + 1 := by omega
      unfold g_rg
      rw [this, e2]
      simp only [List.append_assoc]
  have lens : ∀ j i, i + j = l → (M i).length ≤ (M l).length := by
    intro j
    induction j with
    | zero =>
      intro i e
      rw [show i = l by omega]
      exact Nat.le_refl _
    | succ j ih =>
      intro i e
      have q := ih (i + 1) (by omega)
      rw [Ms i (by omega), List.length_append, List.length_append] at q
      omega
  rw [← Ml] at ht h
  have key : ∀ i, i ≤ l → ∀ J, tx_T J 1475 1469 7 (M i) → tx_M I J → am_St d k_M_putsRing (am_st JJ Lg rr n) K 16 [some (.ref 1469), some (.int (nI m)), some (.int (nI p)), some (.int (nI (f_it f p i))), some (.int (nI (l - i)))] [] (am_st J Lg rr n) := by
    refine lp_up _ (fun i hi ih => ?_) ?_
    · intro J hJ hX
      have q24 := it_lt hf.1 hp i
      have hlen := lens (l - (i + 1)) (i + 1) (by omega)
      have em : nI (l - i) + am_k (-1) = nI (l - (i + 1)) := by
        rw [show l - i = (l - (i + 1)) + 1 by omega]
        exact pk_m1 _
      rw [Ms i hi] at ih hlen
      have last : ∀ (t' : List Nat) J, tx_T J 1475 1469 7 t' → tx_M I J → t' ++ [48 + f_it f p i % 10] = M i ++ g_dg (f_it f p i) → am_St d k_M_putsRing (am_st JJ Lg rr n) K 38 [some (.ref 1469), some (.int (nI m)), some (.int (nI p)), some (.int (nI (f_it f p i))), some (.int (nI (l - i)))] [] (am_st J Lg rr n) := by
        intro t' J hJ hX he
        have hlt : t'.length + 1 < 74 := by
          rw [← he] at hlen
          simp only [List.length_append, List.length_cons, List.length_nil] at hlen
          omega
        refine am_step _ _ _ (b_M_putsRing_38 ?_)
        rw [pk_rem (by omega) (by decide) (by decide), nI_add]
        refine s_puts (by omega) hJ hX (by omega) (fun J hJ hX => ⟨rfl, am_step _ _ _ (b_M_putsRing_49 ?_)⟩)
        rw [he] at hJ
        have hlt2 : (M i ++ g_dg (f_it f p i)).length < 74 := by
          rw [← he, List.length_append]
          exact hlt
        have k66 : ∀ J, tx_T J 1475 1469 7 (M i ++ g_dg (f_it f p i) ++ [if i + 1 < l then 44 else 41]) → tx_M I J → am_St d k_M_putsRing (am_st JJ Lg rr n) K 66 [some (.ref 1469), some (.int (nI m)), some (.int (nI p)), some (.int (nI (f_it f p i))), some (.int (nI (l - i)))] [] (am_st J Lg rr n) := by
          intro J hJ hX
          refine am_step _ _ _ (b_M_putsRing_66 (s_Mto (by omega) hm q24 (hIJ J hX _ q24) ⟨_, rfl, am_step _ _ _ (b_M_putsRing_72 ?_)⟩))
          rw [em]
          exact ih J hJ hX
        refine ⟨fun q => ?_, fun q => ?_⟩
        · rw [nI_ltI (by decide) (by omega)] at q
          rw [if_pos (by omega)] at k66
          exact s_puts (by omega) hJ hX hlt2 (fun J hJ hX => ⟨rfl, k66 J hJ hX⟩)
        · rw [nI_ltI (by decide) (by omega)] at q
          rw [if_neg (by omega)] at k66
          exact s_puts (by omega) hJ hX hlt2 (fun J hJ hX => ⟨rfl, k66 J hJ hX⟩)
      refine am_step _ _ _ (b_M_putsRing_16 ⟨fun _ => ⟨fun q => ?_, fun q => ?_⟩, fun q => absurd (show nI 0 < nI (l - i) from nI_lt (by omega) (by omega)) q⟩)
      · rw [nI_ltI (by decide) (by omega)] at q
        rw [pk_div (by omega) (by decide) (by decide), nI_add]
        refine s_puts (by omega) hJ hX ?_ (fun J hJ hX => ⟨rfl, last _ J hJ hX ?_⟩)
        · unfold g_dg at hlen
          rw [if_neg (by omega)] at hlen
          simp only [List.length_append, List.length_cons, List.length_nil] at hlen
          omega
        · unfold g_dg
          rw [if_neg (by omega)]
          simp only [List.append_assoc]
          rfl
      · rw [nI_ltI (by decide) (by omega)] at q
        refine last _ J hJ hX ?_
        unfold g_dg
        rw [if_pos (by omega)]
    · intro J hJ hX
      rw [Nat.sub_self]
      exact am_step _ _ _ (b_M_putsRing_16 ⟨fun q => absurd q (by decide), fun _ => h J hJ hX⟩)
  have hl0 := lens l 0 (by omega)
  rw [M0, List.length_append] at hl0
  have l41 : ([40] : List Nat).length = 1 := rfl
  refine am_in _ _ _ (am_step _ _ _ (b_M_putsRing_0 (s_puts (by omega) hJ hX (by omega) (fun J hJ hX => ⟨rfl, am_step _ _ _ (b_M_putsRing_6 (s_ring (by omega) hm (hIJ J hX) hf hp hl ⟨_, rfl, am_step _ _ _ (b_M_putsRing_14 ?_)⟩))⟩))))
  rw [← eJJ]
  exact key 0 (Nat.zero_le _) J hJ hX
theorem s_texts {l : Nat → Nat} (hd : 4 ≤ d) (hm : m < 5) (hI : ∀ p, p < 24 → I 1470 (24 * m + p) = nI (f p)) (hf : a_pm f) (hl : ∀ p, p < 24 → g_ps f p (l p)) (h : ∀ J, tx_T J 1475 1469 7 (g_tx f l 24) → tx_M I J → K (some (.int (nI (g_tx f l 24).length))) (am_st J Lg rr n)) : am_AC d k_M_texts [.ref 1469, .int (nI m)] (am_st I Lg rr n) K := by
  obtain ⟨d, rfl, hd1⟩ := s_up hd
  have hIJ : ∀ J, tx_M I J → ∀ p, p < 24 → J 1470 (24 * m + p) = nI (f p) := fun J hX p hp => by rw [hX.1 1470 (by decide) (by decide), hI p hp]
  have key : ∀ p, p ≤ 24 → ∀ J, tx_T J 1475 1469 7 (g_tx f l p) → tx_M I J → am_St d k_M_texts (am_st I Lg rr n) K 7 [some (.ref 1469), some (.int (nI m)), some (.int (nI p))] [] (am_st J Lg rr n) := by
    refine lp_up _ (fun p hp ih => ?_) ?_
    · intro J hJ hX
      have lt := hf.1 p hp
      have skip : ¬ (g_lsb f p = true ∧ ¬ f p = p) → ∀ J, tx_T J 1475 1469 7 (g_tx f l p) → tx_M I J → am_St d k_M_texts (am_st I Lg rr n) K 38 [some (.ref 1469), some (.int (nI m)), some (.int (nI p))] [] (am_st J Lg rr n) := by
        intro c J hJ hX
        have e2 : g_tx f l (p + 1) = g_tx f l p := if_neg c
        rw [e2] at ih
        refine am_step _ _ _ (b_M_texts_38 ?_)
        rw [nI_add]
        exact ih J hJ hX
      refine am_step _ _ _ (b_M_texts_7 ⟨fun _ => s_isLeast (by omega) hm (hIJ J hX) hf hp ⟨_, rfl, am_step _ _ _ (b_M_texts_19 ?_)⟩, fun q => absurd (nI_lt hp (by decide)) q⟩)
      cases hb : g_lsb f p
      · exact ⟨fun _ => skip (fun c => by rw [hb] at c; cases c.1) J hJ hX, fun q => absurd rfl q⟩
      · refine ⟨fun q => absurd q (by decide), fun _ => s_Mto (by omega) hm hp (hIJ J hX p hp) ⟨_, rfl, am_step _ _ _ (b_M_texts_28 ⟨fun q => ?_, fun q => ?_⟩)⟩⟩
        · rw [nI_eq (by omega) (by omega)] at q
          exact skip (fun c => c.2 q) J hJ hX
        · have q : ¬ f p = p := fun e => q (by rw [e])
          have e2 : g_tx f l (p + 1) = g_tx f l p ++ g_rg f p (l p) := if_pos ⟨hb, q⟩
          have l74 := tx_74 hf hl (show p + 1 ≤ 24 by omega)
          rw [e2] at ih l74
          refine s_putsRing hd1 hm hI hf hp (hl p hp) hJ hX l74 (fun J hJ hX => ⟨rfl, am_step _ _ _ (b_M_texts_38 ?_)⟩)
          rw [nI_add]
          exact ih J hJ hX
    · intro J hJ hX
      refine am_step _ _ _ (b_M_texts_7 ⟨fun q => absurd q (by decide), fun _ => ?_⟩)
      rw [hJ.1]
      exact h J hJ hX
  refine am_in _ _ _ (am_step _ _ _ (b_M_texts_0 (key 0 (by decide) _ ⟨?_, fun k hk => absurd hk (Nat.not_lt_zero k)⟩ ⟨fun b b1 _ => am_sr_off _ _ b1, fun j hj => ?_⟩)))
  · rw [am_sr_at, am_u1_at]
    rfl
  · rw [am_sr_at, am_u1_off _ _ hj]
end TD
