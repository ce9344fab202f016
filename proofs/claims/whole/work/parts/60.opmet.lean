/-! COUNTS OVER THE OCTADS; the operation met -/
theorem ws_mem {w : Nat} : ∀ q x, x ∈ g_ws w q → ∃ p, p < q ∧ x = g_w p ∧ pcn (g_w p) = w
  | 0, x, h => by cases h
  | q + 1, x, h => by
    rw [ws_s] at h
    by_cases e : pcn (g_w q) = w
    · rw [if_pos e, List.mem_append] at h
      rcases h with h | h
      · obtain ⟨p, p1, p2⟩ := ws_mem q x h
        exact ⟨p, by omega, p2⟩
      · rw [List.mem_singleton] at h
        exact ⟨q, Nat.lt_succ_self q, h, e⟩
    · rw [if_neg e] at h
      obtain ⟨p, p1, p2⟩ := ws_mem q x h
      exact ⟨p, by omega, p2⟩
theorem getD_mem {l : List Nat} {j : Nat} (h : j < l.length) : l.getD j 0 ∈ l := by
  rw [List.getD_eq_getElem?_getD, List.getElem?_eq_getElem h]
  exact List.getElem_mem h
/-- octad j -/
def g_oct (j : Nat) : Nat := (g_ws 8 4096).getD j 0
theorem oct_w {j : Nat} (h : j < 759) : ∃ p, p < 4096 ∧ g_oct j = g_w p ∧ pcn (g_w p) = 8 := ws_mem 4096 _ (getD_mem (by rw [ws_8]; exact h))
theorem oct_lt {j : Nat} (h : j < 759) : g_oct j < 2 ^ 24 := by
  obtain ⟨p, p1, p2, p3⟩ := oct_w h
  rw [p2]
  exact g_w_lt p
/-- how many of the first q satisfy P -/
def g_cnt (P : Nat → Bool) (q : Nat) : Nat := itn (fun k c => if P k then c + 1 else c) 0 q
theorem cnt_s (P : Nat → Bool) (q : Nat) : g_cnt P (q + 1) = if P q then g_cnt P q + 1 else g_cnt P q := rfl
theorem cnt_le (P : Nat → Bool) : ∀ q, g_cnt P q ≤ q
  | 0 => Nat.le_refl _
  | q + 1 => by
    rw [cnt_s]
    have := cnt_le P q
    split <;> omega
section CT
variable {d : Nat} {K : Option Value → am_M → Prop} {I : Nat → Nat → Int32} {Lg : Nat → Nat → Int64} {rr : Nat → Nat → Option Nat} {n : Nat} {G : (Nat → Nat → Int32) → Prop}
theorem s_octadsInside {v : Int32} (hd : 1 ≤ d) (hT : vT I) (h : K (some (.int (nI (g_cnt (fun j => decide ((nI (g_oct j) &&& (v ^^^ am_k (-1))) = 0)) 759)))) (am_st I Lg rr n)) : am_AC d k_Go_octadsInside [.ref 19, .int v] (am_st I Lg rr n) K := by
  obtain ⟨d, rfl, hd1⟩ := s_up hd
  have key : ∀ q, q ≤ 759 → am_St d k_Go_octadsInside (am_st I Lg rr n) K 14 [some (.ref 19), some (.int v), some (.int (nI (g_cnt (fun j => decide ((nI (g_oct j) &&& (v ^^^ am_k (-1))) = 0)) q))), some (.ref 21), some (.int (nI 759)), some (.int (nI q)), none] [] (am_st I Lg rr n) := by
    refine lp_up _ (fun q hq ih => ?_) ?_
    · have eu : am_un (nI q) = q := n_un (by omega)
      have eo : I 21 q = nI (g_oct q) := hT.2.1.2.1 q hq
      rw [cnt_s] at ih
      refine am_step _ _ _ (b_Go_octadsInside_14 ⟨fun _ => ?_, fun q2 => absurd (nI_lt hq (by decide)) q2⟩)
      rw [eu, eo, nI_add, nI_add]
      refine ⟨hq, fun c => ?_, fun c => ?_⟩
      · rw [decide_eq_true c, if_pos rfl] at ih
        exact am_fg (le_same _ (le_same _ (le_same _ (le_same _ (le_same _ (le_same _ (le_int _ le_nil))))))) ih
      · rw [decide_eq_false c, if_neg (by decide)] at ih
        exact am_fg (le_same _ (le_same _ (le_same _ (le_same _ (le_same _ (le_same _ (le_int _ le_nil))))))) ih
    · exact am_step _ _ _ (b_Go_octadsInside_14 ⟨fun q2 => absurd q2 (by decide), fun _ => h⟩)
  exact am_in _ _ _ (am_step _ _ _ (b_Go_octadsInside_0 (key 0 (by decide))))
theorem s_octadsAround {v : Int32} (hd : 1 ≤ d) (hT : vT I) (h : K (some (.int (nI (g_cnt (fun j => decide ((v &&& (nI (g_oct j) ^^^ am_k (-1))) = 0)) 759)))) (am_st I Lg rr n)) : am_AC d k_Go_octadsAround [.ref 19, .int v] (am_st I Lg rr n) K := by
  obtain ⟨d, rfl, hd1⟩ := s_up hd
  have key : ∀ q, q ≤ 759 → am_St d k_Go_octadsAround (am_st I Lg rr n) K 14 [some (.ref 19), some (.int v), some (.int (nI (g_cnt (fun j => decide ((v &&& (nI (g_oct j) ^^^ am_k (-1))) = 0)) q))), some (.ref 21), some (.int (nI 759)), some (.int (nI q)), none] [] (am_st I Lg rr n) := by
    refine lp_up _ (fun q hq ih => ?_) ?_
    · have eu : am_un (nI q) = q := n_un (by omega)
      have eo : I 21 q = nI (g_oct q) := hT.2.1.2.1 q hq
      rw [cnt_s] at ih
      refine am_step _ _ _ (b_Go_octadsAround_14 ⟨fun _ => ?_, fun q2 => absurd (nI_lt hq (by decide)) q2⟩)
      rw [eu, eo, nI_add, nI_add]
      refine ⟨hq, fun c => ?_, fun c => ?_⟩
      · rw [decide_eq_true c, if_pos rfl] at ih
        exact am_fg (le_same _ (le_same _ (le_same _ (le_same _ (le_same _ (le_same _ (le_int _ le_nil))))))) ih
      · rw [decide_eq_false c, if_neg (by decide)] at ih
        exact am_fg (le_same _ (le_same _ (le_same _ (le_same _ (le_same _ (le_same _ (le_int _ le_nil))))))) ih
    · exact am_step _ _ _ (b_Go_octadsAround_14 ⟨fun q2 => absurd q2 (by decide), fun _ => h⟩)
  exact am_in _ _ _ (am_step _ _ _ (b_Go_octadsAround_0 (key 0 (by decide))))
theorem s_octadsIn {v : Int32} (hd : 1 ≤ d) (hT : vT I) (h : K (some (.int (nI (g_cnt (fun j => decide ((nI (g_oct j) &&& (v ^^^ am_k (-1))) = 0)) 759)))) (am_st I Lg rr n)) : am_AC d k_M_octadsIn [.ref 1469, .int v] (am_st I Lg rr n) K := by
  obtain ⟨d, rfl, hd1⟩ := s_up hd
  have key : ∀ q, q ≤ 759 → am_St d k_M_octadsIn (am_st I Lg rr n) K 4 [some (.ref 1469), some (.int v), some (.int (nI (g_cnt (fun j => decide ((nI (g_oct j) &&& (v ^^^ am_k (-1))) = 0)) q))), some (.int (nI q))] [] (am_st I Lg rr n) := by
    refine lp_up _ (fun q hq ih => ?_) ?_
    · have eu : am_un (nI q) = q := n_un (by omega)
      have eo : I 1474 q = nI (g_oct q) := hT.2.2.2.2.2.2 q hq
      rw [cnt_s] at ih
      refine am_step _ _ _ (b_M_octadsIn_4 ⟨fun _ => ?_, fun q2 => absurd (nI_lt hq (by decide)) q2⟩)
      rw [eu, eo, nI_add, nI_add, nI_add, Nat.add_zero]
      refine ⟨hq, fun c => ?_, fun c => ?_⟩
      · rw [decide_eq_true c, if_pos rfl] at ih
        exact ih
      · rw [decide_eq_false c, if_neg (by decide)] at ih
        exact ih
    · exact am_step _ _ _ (b_M_octadsIn_4 ⟨fun q2 => absurd q2 (by decide), fun _ => h⟩)
  exact am_in _ _ _ (am_step _ _ _ (b_M_octadsIn_0 (key 0 (by decide))))
theorem s_octadsWith {v : Int32} (hd : 1 ≤ d) (hT : vT I) (h : K (some (.int (nI (g_cnt (fun j => decide ((v &&& (nI (g_oct j) ^^^ am_k (-1))) = 0)) 759)))) (am_st I Lg rr n)) : am_AC d k_M_octadsWith [.ref 1469, .int v] (am_st I Lg rr n) K := by
  obtain ⟨d, rfl, hd1⟩ := s_up hd
  have key : ∀ q, q ≤ 759 → am_St d k_M_octadsWith (am_st I Lg rr n) K 4 [some (.ref 1469), some (.int v), some (.int (nI (g_cnt (fun j => decide ((v &&& (nI (g_oct j) ^^^ am_k (-1))) = 0)) q))), some (.int (nI q))] [] (am_st I Lg rr n) := by
    refine lp_up _ (fun q hq ih => ?_) ?_
    · have eu : am_un (nI q) = q := n_un (by omega)
      have eo : I 1474 q = nI (g_oct q) := hT.2.2.2.2.2.2 q hq
      rw [cnt_s] at ih
      refine am_step _ _ _ (b_M_octadsWith_4 ⟨fun _ => ?_, fun q2 => absurd (nI_lt hq (by decide)) q2⟩)
      rw [eu, eo, nI_add, nI_add, nI_add, Nat.add_zero]
      refine ⟨hq, fun c => ?_, fun c => ?_⟩
      · rw [decide_eq_true c, if_pos rfl] at ih
        exact ih
      · rw [decide_eq_false c, if_neg (by decide)] at ih
        exact ih
    · exact am_step _ _ _ (b_M_octadsWith_4 ⟨fun q2 => absurd q2 (by decide), fun _ => h⟩)
  exact am_in _ _ _ (am_step _ _ _ (b_M_octadsWith_0 (key 0 (by decide))))
theorem and_lt24 {a b : Nat} (h : a < 2 ^ 24) : a &&& b < 2 ^ 24 := Nat.lt_of_le_of_lt Nat.and_le_left h
theorem s_octadsMeeting {s k : Nat} (hd : 2 ≤ d) (hT : vT I) (hk : k < 9) (h : K (some (.int (nI (g_cnt (fun j => decide (pcn (g_oct j &&& s) = k)) 759)))) (am_st I Lg rr n)) : am_AC d k_Go_octadsMeeting [.ref 19, .int (nI s), .int (nI k)] (am_st I Lg rr n) K := by
  obtain ⟨d, rfl, hd1⟩ := s_up hd
  have key : ∀ q, q ≤ 759 → am_St d k_Go_octadsMeeting (am_st I Lg rr n) K 16 [some (.ref 19), some (.int (nI s)), some (.int (nI k)), some (.int (nI (g_cnt (fun j => decide (pcn (g_oct j &&& s) = k)) q))), some (.ref 21), some (.int (nI 759)), some (.int (nI q)), none] [] (am_st I Lg rr n) := by
    refine lp_up _ (fun q hq ih => ?_) ?_
    · have eu : am_un (nI q) = q := n_un (by omega)
      have eo : I 21 q = nI (g_oct q) := hT.2.1.2.1 q hq
      have ol := and_lt24 (b := s) (oct_lt hq)
      have pl := pcn_le 24 _ ol
      rw [cnt_s] at ih
      refine am_step _ _ _ (b_Go_octadsMeeting_16 ⟨fun _ => ?_, fun q2 => absurd (nI_lt hq (by decide)) q2⟩)
      rw [eu, eo, n_and]
      refine ⟨hq, s_bitCount hd1 ol ⟨_, rfl, am_step _ _ _ (b_Go_octadsMeeting_37 ⟨fun c => ?_, fun c => ?_⟩)⟩⟩
      · rw [nI_eq (by omega) (by omega)] at c
        rw [decide_eq_true c, if_pos rfl] at ih
        rw [nI_add, nI_add]
        exact am_fg (le_same _ (le_same _ (le_same _ (le_same _ (le_same _ (le_same _ (le_same _ (le_int _ le_nil)))))))) ih
      · rw [nI_eq (by omega) (by omega)] at c
        rw [decide_eq_false c, if_neg (by decide)] at ih
        rw [nI_add]
        exact am_fg (le_same _ (le_same _ (le_same _ (le_same _ (le_same _ (le_same _ (le_same _ (le_int _ le_nil)))))))) ih
    · exact am_step _ _ _ (b_Go_octadsMeeting_16 ⟨fun q2 => absurd q2 (by decide), fun _ => h⟩)
  exact am_in _ _ _ (am_step _ _ _ (b_Go_octadsMeeting_0 (key 0 (by decide))))
theorem op_met (a0 a1 : Int32) : lw_Op (vV G) k_X_met k_M_met [.int a0, .int a1] := by
  refine op_pure fun I Lg rr n hV => ?_
  have hT := hV.1
  rcases set_cases a0 with ⟨s, s1, rfl, s3, s4⟩ | ⟨s3, s4⟩
  · rcases rng_cases a1 (N := 9) (by decide) (by decide) with ⟨k, c1, rfl, c3, c4, c5⟩ | ⟨c3, c4, c5⟩
    · refine ⟨nI (g_cnt (fun j => decide (pcn (g_oct j &&& s) = k)) 759), fun K hK => am_in _ _ _ (am_step _ _ _ (b_X_met_0 (s_isNoSet (by decide) ⟨_, rfl, am_step _ _ _ (b_X_met_4 ?_)⟩))), fun K hK => am_in _ _ _ (am_step _ _ _ (b_M_met_0 (s_isSet (by decide) ⟨_, rfl, am_step _ _ _ (b_M_met_4 ?_)⟩)))⟩
      · rw [s3]
        refine ⟨fun _ => s_isOutside (by decide) ⟨_, rfl, am_step _ _ _ (b_X_met_13 ?_)⟩, fun q => absurd rfl q⟩
        rw [c3]
        exact ⟨fun _ => s_octadsMeeting (by decide) hT c1 ⟨_, rfl, am_step _ _ _ (b_X_met_27 hK)⟩, fun q => absurd rfl q⟩
      · rw [s4]
        refine ⟨fun q => absurd q (by decide), fun _ => s_in (by decide) ⟨_, rfl, am_step _ _ _ (b_M_met_16 ?_)⟩⟩
        rw [c5]
        refine ⟨fun q => absurd q (by decide), fun _ => ?_⟩
        have key : ∀ q, q ≤ 759 → am_St 99 k_M_met (am_st I Lg rr n) K 26 [some (.ref 1469), some (.int (nI s)), some (.int (nI k)), some (.int (nI (g_cnt (fun j => decide (pcn (g_oct j &&& s) = k)) q))), some (.int (nI q))] [] (am_st I Lg rr n) := by
          refine lp_up _ (fun q hq ih => ?_) ?_
          · have eu : am_un (nI q) = q := n_un (by omega)
            have eo : I 1474 q = nI (g_oct q) := hT.2.2.2.2.2.2 q hq
            have ol := and_lt24 (b := s) (oct_lt hq)
            have pl := pcn_le 24 _ ol
            rw [cnt_s] at ih
            refine am_step _ _ _ (b_M_met_26 ⟨fun _ => ?_, fun q2 => absurd (nI_lt hq (by decide)) q2⟩)
            rw [eu, eo, n_and]
            refine ⟨hq, s_bits (by decide) (by omega) ⟨_, rfl, am_step _ _ _ (b_M_met_47 ⟨fun c => ?_, fun c => ?_⟩)⟩⟩
            · rw [nI_eq (by omega) (by omega)] at c
              rw [decide_eq_true c, if_pos rfl] at ih
              rw [nI_add, nI_add]
              exact ih
            · rw [nI_eq (by omega) (by omega)] at c
              rw [decide_eq_false c, if_neg (by decide)] at ih
              rw [nI_add, nI_add]
              exact ih
          · exact am_step _ _ _ (b_M_met_26 ⟨fun q2 => absurd q2 (by decide), fun _ => hK⟩)
        exact key 0 (by decide)
    · refine ⟨am_k (-1), fun K hK => am_in _ _ _ (am_step _ _ _ (b_X_met_0 (s_isNoSet (by decide) ⟨_, rfl, am_step _ _ _ (b_X_met_4 ?_)⟩))), fun K hK => am_in _ _ _ (am_step _ _ _ (b_M_met_0 (s_isSet (by decide) ⟨_, rfl, am_step _ _ _ (b_M_met_4 ?_)⟩)))⟩
      · rw [s3]
        refine ⟨fun _ => s_isOutside (by decide) ⟨_, rfl, am_step _ _ _ (b_X_met_13 ?_)⟩, fun q => absurd rfl q⟩
        rw [c3]
        exact ⟨fun q => absurd q (by decide), fun _ => hK⟩
      · rw [s4]
        refine ⟨fun q => absurd q (by decide), fun _ => s_in (by decide) ⟨_, rfl, am_step _ _ _ (b_M_met_16 ?_)⟩⟩
        rw [c5]
        exact ⟨fun _ => hK, fun q => absurd rfl q⟩
  · refine ⟨am_k (-1), fun K hK => am_in _ _ _ (am_step _ _ _ (b_X_met_0 (s_isNoSet (by decide) ⟨_, rfl, am_step _ _ _ (b_X_met_4 ?_)⟩))), fun K hK => am_in _ _ _ (am_step _ _ _ (b_M_met_0 (s_isSet (by decide) ⟨_, rfl, am_step _ _ _ (b_M_met_4 ?_)⟩)))⟩
    · rw [s3]
      exact ⟨fun q => absurd q (by decide), fun _ => hK⟩
    · rw [s4]
      exact ⟨fun _ => hK, fun q => absurd rfl q⟩
end CT
