/-! THE MODEL'S READER: the loop over the text -/
theorem pr_end {tl : Nat} {t : Nat → Nat} {F : Nat → x_R} : ∀ m acc p r f, x_pr tl t F m acc p = (r, some f) → ¬ x_L tl t r = 42
  | 0, acc, p, r, f, h => by
    have h : (p, (none : Option (Nat → Nat))) = (r, some f) := h
    cases h
  | m + 1, acc, p, r, f, h => by
    unfold x_pr at h
    generalize F p = z at h
    cases z with
    | mk x o =>
      cases o with
      | none =>
        have h : (x, (none : Option (Nat → Nat))) = (r, some f) := h
        cases h
      | some g =>
        have h : (if x_L tl t (g_sk tl t x) = 42 then x_pr tl t F m (pe_c g acc) (g_sk tl t x + 1) else (g_sk tl t x, some (pe_c g acc))) = (r, some f) := h
        by_cases c : x_L tl t (g_sk tl t x) = 42
        · rw [if_pos c] at h
          exact pr_end m _ _ r f h
        · rw [if_neg c] at h
          have := congrArg Prod.fst h
          have : g_sk tl t x = r := this
          rw [← this]
          exact c
theorem P_end {tl : Nat} {t : Nat → Nat} {cur : Nat → Nat → Nat} : ∀ m p r f, x_P tl t cur m p = (r, some f) → ¬ x_L tl t r = 42
  | 0, p, r, f, h => pr_end 100 pe_1 p r f h
  | m + 1, p, r, f, h => pr_end 100 pe_1 p r f h
def mpOK (Lg : Nat → Nat → Int64) (rr : Nat → Nat → Option Nat) (n tl : Nat) (t : Nat → Nat) (cur : Nat → Nat → Nat) (D : Nat) (B : Nat → x_R) (d : Nat) : Prop := ∀ (M0 : am_M) (K : Option Value → am_M → Prop) (I : Nat → Nat → Int32) (p : Nat), uA cur I tl t → p ≤ tl → I 1469 14 = nI D → (∀ j, j < 24 → I 1478 (24 * D + j) = nI j) → (∀ r f, B p = (r, some f) → ∀ I', uB I I' → (∀ i, i < 24 * D → I' 1478 i = I 1478 i) → I' 1469 14 = nI D → (∀ j, j < 24 → I' 1478 (24 * D + j) = nI (f j)) → ∀ s, s ≤ tl → g_sk tl t s = r → am_St d k_M_isText M0 K 18 [some (.ref 1469), some (.int (nI 0)), some (.int (nI 1)), none] [] (am_st (pm I' s) Lg rr n)) → (∀ r, B p = (r, none) → ∀ I', uB I I' → am_R k_M_isText M0 K (some (.int (nI 0))) (am_st (pm I' r) Lg rr n)) → am_St d k_M_isText M0 K 18 [some (.ref 1469), some (.int (nI 1)), some (.int (nI 1)), none] [] (am_st (pm I p) Lg rr n)
section MX
variable {d : Nat} {K : Option Value → am_M → Prop} {I : Nat → Nat → Int32} {Lg : Nat → Nat → Int64} {rr : Nat → Nat → Option Nat} {n : Nat} {tl : Nat} {t : Nat → Nat} {cur : Nat → Nat → Nat} {M0 : am_M}
theorem m_bad {v1 : Int32} {M : Nat → Nat → Int32} (h : am_R k_M_isText M0 K (some (.int (nI 0))) (am_st M Lg rr n)) : am_St d k_M_isText M0 K 18 [some (.ref 1469), some (.int v1), some (.int (nI 0)), none] [] (am_st M Lg rr n) :=
  am_step _ _ _ (b_M_isText_18 ⟨fun _ => am_step _ _ _ (b_M_isText_168 ⟨fun _ => am_step _ _ _ (b_M_isText_183 (am_step _ _ _ (b_M_isText_184 h))), fun q => absurd rfl q⟩), fun q => absurd rfl q⟩)
/-- what is neither a factor nor a bracket that closes: * or the end of it -/
theorem m_star {s : Nat} {v : Nat} (h : (v = 42 → am_St d k_M_isText M0 K 18 [some (.ref 1469), some (.int (nI 1)), some (.int (nI 1)), none] [] (am_st (pm I (s + 1)) Lg rr n))) (h0 : ¬ v = 42 → am_R k_M_isText M0 K (some (.int (nI 0))) (am_st (pm I s) Lg rr n)) (hv : v < 128) (v1 v2 : Int32) : am_St d k_M_isText M0 K 133 [some (.ref 1469), some (.int v1), some (.int v2), some (.int (nI v))] [] (am_st (pm I s) Lg rr n) := by
  refine am_step _ _ _ (b_M_isText_133 ⟨fun c => am_step _ _ _ (b_M_isText_144 ⟨fun q => absurd q (by decide), fun _ => am_step _ _ _ (b_M_isText_161 ?_)⟩), fun c => am_step _ _ _ (b_M_isText_144 ⟨fun _ => am_step _ _ _ (b_M_isText_161 ?_), fun q => absurd rfl q⟩)⟩)
  · rw [nI_eq (by omega) (by decide)] at c
    rw [pm_10, nI_add, pm_pm]
    exact am_step _ _ _ (b_M_isText_165 (am_fg (le_same _ (le_same _ (le_same _ (le_int _ le_nil)))) (h c)))
  · rw [pm_10, nI_add, pm_pm, Nat.add_zero]
    exact am_step _ _ _ (b_M_isText_165 (am_fg (le_same _ (le_same _ (le_same _ (le_int _ le_nil)))) (m_bad (h0 fun q => c (by rw [q])))))
theorem m_prod {m D : Nat} {B : Nat → x_R} (hd : 8 ≤ d) (hD : D + m = 6) (hB : ¬ m = 0 → mpOK Lg rr n tl t cur (D + 1) B d) (hBo : ∀ q, q ≤ tl → x_ok tl q (B q)) (hBe : ∀ q r f, B q = (r, some f) → ¬ x_L tl t r = 42) (hc : ∀ k, k < 10 → pe_m (cur k)) : mpOK Lg rr n tl t cur D (fun p => x_pr tl t (fun p => x_of tl t (x_pl tl t cur m B p)) 100 pe_1 p) d := by
  intro M0 K I p hA hp hl h24 h1 h0
  have tl100 := hA.1.1
  have z10 : ¬ nI 1 = 0 := by decide
  have key : ∀ k q acc I', 200 ≤ q + 2 * k → q ≤ tl → pe_m acc → uB I I' → (∀ i, i < 24 * D → I' 1478 i = I 1478 i) → I' 1469 14 = nI D → (∀ j, j < 24 → I' 1478 (24 * D + j) = nI (acc j)) → x_pr tl t (fun p => x_of tl t (x_pl tl t cur m B p)) k acc q = x_pr tl t (fun p => x_of tl t (x_pl tl t cur m B p)) 100 pe_1 p → am_St d k_M_isText M0 K 18 [some (.ref 1469), some (.int (nI 1)), some (.int (nI 1)), none] [] (am_st (pm I' q) Lg rr n) := by
    intro k
    induction k with
    | zero => exact fun q acc I' h200 hq => absurd h200 (by omega)
    | succ k ih =>
      intro q acc I' h200 hq am hU hfr hl' hdone hR
      have hA' := hA.fr hU
      have hT' := hA'.1
      have xl := hT'.L (g_sk tl t q)
      have sl := sk_le (t := t) q hq
      have sg := sk_ge (tl := tl) (t := t) q
      have okf := of_ok (t := t) (pl_ok (t := t) (n := m) hc hBo hq)
      have R0 : ∀ r, x_of tl t (x_pl tl t cur m B q) = (r, none) → x_pr tl t (fun p => x_of tl t (x_pl tl t cur m B p)) 100 pe_1 p = (r, none) := fun r e => by
        rw [← hR]
        show (match x_of tl t (x_pl tl t cur m B q) with
            | (r, none) => (r, none)
            | (r, some f) => if x_L tl t (g_sk tl t r) = 42 then x_pr tl t (fun p => x_of tl t (x_pl tl t cur m B p)) k (pe_c f acc) (g_sk tl t r + 1) else (g_sk tl t r, some (pe_c f acc))) = (r, none)
        rw [e]
      have R1 : ∀ r f, x_of tl t (x_pl tl t cur m B q) = (r, some f) → (if x_L tl t (g_sk tl t r) = 42 then x_pr tl t (fun p => x_of tl t (x_pl tl t cur m B p)) k (pe_c f acc) (g_sk tl t r + 1) else (g_sk tl t r, some (pe_c f acc))) = x_pr tl t (fun p => x_of tl t (x_pl tl t cur m B p)) 100 pe_1 p := fun r f e => by
        rw [← hR]
        show _ = (match x_of tl t (x_pl tl t cur m B q) with
            | (r, none) => (r, none)
            | (r, some f) => if x_L tl t (g_sk tl t r) = 42 then x_pr tl t (fun p => x_of tl t (x_pl tl t cur m B p)) k (pe_c f acc) (g_sk tl t r + 1) else (g_sk tl t r, some (pe_c f acc)))
        rw [e]
      -- behind a factor
      have AF : ∀ r f I3, x_of tl t (x_pl tl t cur m B q) = (r, some f) → uB I I3 → (∀ i, i < 24 * D → I3 1478 i = I 1478 i) → I3 1469 14 = nI D → (∀ j, j < 24 → I3 1478 (24 * D + j) = nI (f (acc j))) → am_St d k_M_isText M0 K 18 [some (.ref 1469), some (.int (nI 0)), some (.int (nI 1)), none] [] (am_st (pm I3 r) Lg rr n) := fun r f I3 e hU3 hfr3 hl3 hd3 => by
        have hx := R1 r f e
        rw [e] at okf
        have fm : pe_m f := okf.2.2.1
        have qr : q < r := okf.2.2.2
        have rl : r ≤ tl := okf.2.1
        have rg := sk_ge (tl := tl) (t := t) r
        by_cases c : x_L tl t (g_sk tl t r) = 42
        · rw [if_pos c] at hx
          have hA3 := hA.fr hU3
          have ql := L_lt (tl := tl) (t := t) (p := g_sk tl t r) (by rw [c]; decide)
          have sl3 := sk_le (t := t) r rl
          refine am_step _ _ _ (b_M_isText_18 ⟨fun q2 => absurd q2 z10, fun _ => ⟨fun _ => s_here (by omega) hA3.1 rl ⟨_, rfl, am_step _ _ _ (b_M_isText_30 ⟨fun q2 => ?_, fun _ => am_step _ _ _ (b_M_isText_33 (s_here (by omega) hA3.1 sl3 ⟨_, rfl, am_step _ _ _ (b_M_isText_37 ⟨fun _ => am_step _ _ _ (b_M_isText_84 ⟨fun _ => ⟨fun q2 => ?_, fun _ => ?_⟩, fun q2 => absurd rfl q2⟩), fun q2 => absurd rfl q2⟩)⟩))⟩)⟩, fun q2 => absurd rfl q2⟩⟩)
          · rw [c] at q2
            exact absurd q2 (by decide)
          · rw [sk_sk, c] at q2
            exact absurd q2 (by decide)
          · rw [sk_sk]
            exact m_star (fun _ => ih _ _ _ (by omega) ql (pe_c_m fm am) hU3 hfr3 hl3 hd3 hx) (fun q2 => absurd c q2) (by rw [c]; decide) _ _
        · rw [if_neg c] at hx
          exact h1 _ _ hx.symm I3 hU3 hfr3 hl3 hd3 r rl rfl
      -- a factor that is no bracket
      have plain : ¬ (x_L tl t (g_sk tl t q) = 91 ∧ ¬ m = 0) → am_St d k_M_isText M0 K 84 [some (.ref 1469), some (.int (nI 1)), some (.int (nI 1)), some (.int (nI (x_L tl t (g_sk tl t q))))] [] (am_st (pm I' (g_sk tl t q)) Lg rr n) := fun hn => by
        have e1 : x_pl tl t cur m B (g_sk tl t q) = x_pl tl t cur m B q := by
          unfold x_pl
          rw [sk_sk]
        refine am_step _ _ _ (b_M_isText_84 ⟨fun q2 => absurd q2 z10, fun _ => s_readsFactor (m := m) (B := B) (by omega) hc hA' sl (by omega) hl' (by rw [sk_sk]; exact hn) hdone am.1.1 (fun r g hr I3 hI3 hg => ⟨_, rfl, am_step _ _ _ (b_M_isText_92 (am_step _ _ _ (b_M_isText_165 (am_fg (le_same _ (le_same _ (le_same _ (le_int _ le_nil)))) ?_))))⟩) fun r hr I3 hI3 => ⟨_, rfl, am_step _ _ _ (b_M_isText_92 (am_step _ _ _ (b_M_isText_165 (am_fg (le_same _ (le_same _ (le_same _ (le_int _ le_nil)))) (m_bad ?_)))))⟩⟩)
        · rw [e1] at hr
          exact AF r g I3 hr (uB_t hU ⟨fun c a1 a2 a3 _ => hI3.1 c a1 a2 a3, fun j _ _ => by rw [hI3.1 1469 (by decide) (by decide) (by decide)]⟩) (fun i hi => by rw [hI3.2 i (by omega), hfr i hi]) (by rw [hI3.1 1469 (by decide) (by decide) (by decide), hl']) hg
        · rw [e1] at hr
          exact h0 r (R0 r hr) I3 (uB_t hU ⟨fun c a1 a2 a3 _ => hI3.1 c a1 a2 a3, fun j _ _ => by rw [hI3.1 1469 (by decide) (by decide) (by decide)]⟩)
      refine am_step _ _ _ (b_M_isText_18 ⟨fun q2 => absurd q2 z10, fun _ => ⟨fun q2 => absurd q2 z10, fun _ => am_step _ _ _ (b_M_isText_33 (s_here (by omega) hT' hq ⟨_, rfl, am_step _ _ _ (b_M_isText_37 ⟨fun q2 => absurd q2 z10, fun _ => ⟨fun c => ?_, fun c => plain fun e => c (by rw [e.1])⟩⟩)⟩))⟩⟩)
      rw [nI_eq (by omega) (by decide)] at c
      rw [pm_j _ _ (show ¬ 14 = 10 by decide), hl']
      refine ⟨fun c2 => ?_, fun c2 => plain fun e => c2 (nI_lt (by omega) (by decide))⟩
      have D6 : D < 6 := Nat.lt_of_not_le fun q2 => absurd c2 (nI_nlt q2 (by omega))
      have m0 : ¬ m = 0 := by omega
      have ql := L_lt (tl := tl) (t := t) (p := g_sk tl t q) (by rw [c]; decide)
      have okB := hBo (g_sk tl t q + 1) ql
      rw [pm_10, nI_add, pm_pm, pm_j _ _ (show ¬ 14 = 10 by decide), hl', nI_add, lv_pm]
      refine s_begins (D := D + 1) (by omega) (by omega) (lv_14 _ _) fun I4 hI4 ho4 hj4 => ⟨rfl, am_step _ _ _ (b_M_isText_81 (am_step _ _ _ (b_M_isText_165 (am_fg (le_same _ (le_same _ (le_same _ (le_int _ le_nil)))) ?_))))⟩
      have U4 : uB I I4 := uB_t hU ⟨fun c a1 a2 a3 a4 => by rw [hI4 c a2, lv_off _ _ a4], fun j a1 a2 => by rw [hI4 1469 (by decide), lv_j _ _ a2]⟩
      have d4 : ∀ i, i < 24 * (D + 1) → I4 1478 i = I' 1478 i := fun i hi => by rw [ho4 i (by omega), lv_off _ _ (by decide)]
      refine hB m0 M0 K I4 _ (hA.fr U4) ql (by rw [hI4 1469 (by decide), lv_14]) hj4 (fun r f hr I5 hU5 hfr5 hl5 hd5 s hs hsr => ?_) fun r hr I5 hU5 => h0 r (R0 r ?_) I5 (uB_t U4 hU5)
      · rw [hr] at okB
        have fm : pe_m f := okB.2.2.1
        have rl : r ≤ tl := okB.2.1
        have U5 := uB_t U4 hU5
        have hA5 := hA.fr U5
        have xr := hA5.1.L r
        have rr_ : g_sk tl t r = r := by rw [← hsr, sk_sk]
        have n42 := hBe _ r f hr
        have hx : x_pl tl t cur m B q = if x_L tl t r = 93 then (r + 1, some f) else (r, none) := by
          unfold x_pl
          rw [if_pos c, if_neg m0, hr]
          show (if x_L tl t (g_sk tl t r) = 93 then (g_sk tl t r + 1, some f) else (g_sk tl t r, none)) = _
          rw [rr_]
        have nope : ¬ x_L tl t r = 93 → am_R k_M_isText M0 K (some (.int (nI 0))) (am_st (pm I5 r) Lg rr n) := fun e => h0 r (R0 r (by rw [hx, if_neg e]; rfl)) I5 U5
        refine am_step _ _ _ (b_M_isText_18 ⟨fun q2 => absurd q2 z10, fun _ => ⟨fun _ => s_here (by omega) hA5.1 hs ⟨_, rfl, am_step _ _ _ (b_M_isText_30 ?_)⟩, fun q2 => absurd rfl q2⟩⟩)
        rw [hsr]
        refine ⟨fun e => ?_, fun e => am_step _ _ _ (b_M_isText_33 (s_here (by omega) hA5.1 rl ⟨_, rfl, am_step _ _ _ (b_M_isText_37 ⟨fun _ => ?_, fun q2 => absurd rfl q2⟩)⟩))⟩
        · have e : nI (x_L tl t r) = nI 0 := e
          rw [nI_eq (by omega) (by decide)] at e
          refine am_step _ _ _ (b_M_isText_168 ⟨fun q2 => absurd q2 z10, fun _ => ⟨fun q2 => ?_, fun _ => am_step _ _ _ (b_M_isText_183 (am_step _ _ _ (b_M_isText_184 (nope (by omega)))))⟩⟩)
          rw [pm_j _ _ (by decide), hl5] at q2
          have q2 : nI (D + 1) = nI 0 := q2
          rw [nI_eq (by omega) (by decide)] at q2
          omega
        · rw [rr_]
          refine am_step _ _ _ (b_M_isText_84 ⟨fun _ => ⟨fun e2 => ?_, fun e2 => m_star (fun q2 => absurd q2 n42) (fun _ => nope fun q2 => e2 (by rw [q2])) (by omega) _ _⟩, fun q2 => absurd rfl q2⟩)
          rw [nI_eq (by omega) (by decide)] at e2
          have rlt := L_lt (tl := tl) (t := t) (p := r) (by rw [e2]; decide)
          rw [if_pos e2] at hx
          rw [pm_j _ _ (show ¬ 14 = 10 by decide), hl5, pm_10, nI_add, pm_pm]
          refine ⟨fun _ => s_closes (D := D) (by omega) D6 hl5 hd5 fun I6 hI6 hf6 => ⟨rfl, am_step _ _ _ (b_M_isText_125 ?_)⟩, fun q2 => absurd (show nI 0 < nI (D + 1) from nI_lt (by omega) (by omega)) q2⟩
          have U6 : uB I (lv I6 D) := uB_t U5 ⟨fun c a1 _ _ a4 => by rw [lv_off _ _ a4, hI6 c a1], fun j _ a2 => by rw [lv_j _ _ a2, hI6 1469 (by decide)]⟩
          have d6 : ∀ i, i < 24 * (D + 1) → lv I6 D 1478 i = I' 1478 i := fun i hi => by rw [lv_off _ _ (by decide), hI6 1478 (by decide), hfr5 i hi, d4 i hi]
          have ex : x_of tl t (x_pl tl t cur m B q) = x_of1 tl t f (r + 1) := by rw [hx]; rfl
          refine s_readsOften (by omega) (hA.fr U6).1 rlt (by omega) (lv_14 _ _) (fun x hx2 => by rw [lv_off _ _ (by decide)]; exact hf6 x hx2) fm (fun j hj => by rw [d6 _ (by omega)]; exact hdone j hj) am.1.1 (fun r' g hr' I7 hI7 hg => ⟨_, rfl, am_step _ _ _ (b_M_isText_129 (am_step _ _ _ (b_M_isText_165 (am_fg (le_same _ (le_same _ (le_same _ (le_int _ le_nil)))) ?_))))⟩) fun r' hr' I7 hI7 => ⟨_, rfl, am_step _ _ _ (b_M_isText_129 (am_step _ _ _ (b_M_isText_165 (am_fg (le_same _ (le_same _ (le_same _ (le_int _ le_nil)))) (m_bad ?_)))))⟩
          · exact AF r' g I7 (ex.trans hr') (uB_t U6 ⟨fun c a1 a2 a3 _ => hI7.1 c a1 a2 a3, fun j _ _ => by rw [hI7.1 1469 (by decide) (by decide) (by decide)]⟩) (fun i hi => by rw [hI7.2 i (by omega), d6 i (by omega), hfr i hi]) (by rw [hI7.1 1469 (by decide) (by decide) (by decide), lv_14]) hg
          · exact h0 r' (R0 r' (ex.trans hr')) I7 (uB_t U6 ⟨fun c a1 a2 a3 _ => hI7.1 c a1 a2 a3, fun j _ _ => by rw [hI7.1 1469 (by decide) (by decide) (by decide)]⟩)
      · have : x_pl tl t cur m B q = (r, none) := by
          unfold x_pl
          rw [if_pos c, if_neg m0, hr]
        rw [this]
        rfl
  exact key 100 p pe_1 I (by omega) hp pe_1_m uB_r (fun _ _ => rfl) hl (fun j hj => h24 j hj) rfl
theorem m_P (hd : 8 ≤ d) (hc : ∀ k, k < 10 → pe_m (cur k)) : ∀ m D, D + m = 6 → mpOK Lg rr n tl t cur D (x_P tl t cur m) d
  | 0, D, hD => m_prod (m := 0) (B := fun p => (p, none)) hd hD (fun q => absurd rfl q) (fun q hq => x_ok_no (Nat.le_refl _) hq) (fun q r f h => by cases h) hc
  | m + 1, D, hD => m_prod (m := m + 1) (B := x_P tl t cur m) hd hD (fun _ => m_P hd hc m (D + 1) (by omega)) (fun q hq => P_ok hc m q hq) (fun q r f h => P_end m q r f h) hc
theorem s_isText (hd : 9 ≤ d) (hc : ∀ k, k < 10 → pe_m (cur k)) (hA : uA cur I tl t) (h1 : ∀ r f, x_T tl t cur = (r, some f) → ∀ I', uB I I' → (∀ j, j < 24 → I' 1478 j = nI (f j)) → K (some (.int (nI 1))) (am_st (pm I' r) Lg rr n)) (h0 : ∀ r, x_T tl t cur = (r, none) → ∀ I', uB I I' → K (some (.int (nI 0))) (am_st (pm I' r) Lg rr n)) : am_AC d k_M_isText [.ref 1469] (am_st I Lg rr n) K := by
  obtain ⟨d, rfl, hd1⟩ := s_up hd
  have z10 : ¬ nI 1 = 0 := by decide
  have tl100 := hA.1.1
  have okP := P_ok (tl := tl) (t := t) hc 6 0 (Nat.zero_le _)
  refine am_in _ _ _ (am_step _ _ _ (b_M_isText_0 ?_))
  have e0 : am_sr (am_sr I 1469 (am_u1 (I 1469) 10 (nI 0))) 1469 (am_u1 (am_sr I 1469 (am_u1 (I 1469) 10 (nI 0)) 1469) 14 (nI 0)) = pm (lv I 0) 0 := lv_pm I 0 0
  rw [e0]
  refine s_begins (D := 0) (by omega) (by decide) (lv_14 _ _) fun I4 hI4 ho4 hj4 => ⟨rfl, am_step _ _ _ (b_M_isText_14 ?_)⟩
  have U4 : uB I I4 := ⟨fun c a1 a2 a3 a4 => by rw [hI4 c a2, lv_off _ _ a4], fun j a1 a2 => by rw [hI4 1469 (by decide), lv_j _ _ a2]⟩
  refine m_P (Lg := Lg) (rr := rr) (n := n) (by omega) hc 6 0 rfl _ K I4 0 (hA.fr U4) (Nat.zero_le _) (by rw [hI4 1469 (by decide), lv_14]) hj4 (fun r f hr I5 hU5 hfr5 hl5 hd5 s hs hsr => ?_) fun r hr I5 hU5 => h0 r (by unfold x_T; rw [hr]) I5 (uB_t U4 hU5)
  rw [hr] at okP
  have rl : r ≤ tl := okP.2.1
  have U5 := uB_t U4 hU5
  have hA5 := hA.fr U5
  have xr := hA5.1.L r
  have rr_ : g_sk tl t r = r := by rw [← hsr, sk_sk]
  have n42 := P_end 6 0 r f hr
  have nope : r < tl → K (some (.int (nI 0))) (am_st (pm I5 r) Lg rr n) := fun e => h0 r (by unfold x_T; rw [hr]; show (if g_sk tl t r = tl then _ else _) = _; rw [rr_, if_neg (by omega)]) I5 U5
  refine am_step _ _ _ (b_M_isText_18 ⟨fun q2 => absurd q2 z10, fun _ => ⟨fun _ => s_here (by omega) hA5.1 hs ⟨_, rfl, am_step _ _ _ (b_M_isText_30 ?_)⟩, fun q2 => absurd rfl q2⟩⟩)
  rw [hsr]
  refine ⟨fun e => ?_, fun e => am_step _ _ _ (b_M_isText_33 (s_here (by omega) hA5.1 rl ⟨_, rfl, am_step _ _ _ (b_M_isText_37 ⟨fun _ => ?_, fun q2 => absurd rfl q2⟩)⟩))⟩
  · have e : nI (x_L tl t r) = nI 0 := e
    rw [nI_eq (by omega) (by decide)] at e
    have er : r = tl := Nat.le_antisymm rl (Nat.le_of_not_lt fun q => by have := xr.2 q; omega)
    refine am_step _ _ _ (b_M_isText_168 ⟨fun q2 => absurd q2 z10, fun _ => ⟨fun _ => am_step _ _ _ (b_M_isText_184 (h1 r f ?_ I5 U5 fun j hj => ?_)), fun q2 => ?_⟩⟩)
    · unfold x_T
      rw [hr]
      show (if g_sk tl t r = tl then _ else _) = _
      rw [rr_, if_pos er, er]
    · have := hd5 j hj
      rw [show 24 * 0 + j = j by omega] at this
      exact this
    · rw [pm_j _ _ (by decide), hl5] at q2
      exact absurd rfl q2
  · rw [rr_]
    have rlt : r < tl := Nat.lt_of_not_le fun q => e (by
      unfold x_L
      rw [if_neg (by omega)]
      rfl)
    refine am_step _ _ _ (b_M_isText_84 ⟨fun _ => ⟨fun e2 => ?_, fun e2 => m_star (fun q2 => absurd q2 n42) (fun _ => nope rlt) (by omega) _ _⟩, fun q2 => absurd rfl q2⟩)
    rw [pm_j _ _ (show ¬ 14 = 10 by decide), hl5]
    exact ⟨fun q2 => absurd q2 (by decide), fun _ => m_star (fun q2 => absurd q2 n42) (fun _ => nope rlt) (by omega) _ _⟩
end MX
