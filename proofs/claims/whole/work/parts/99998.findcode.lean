/-! THE LEAST ELEMENT WITH GIVEN IMAGES: the code -/
def fF (I J : Nat → Nat → Int32) : Prop := ∀ c, ¬ c = 1331 → ¬ c = 1468 → J c = I c
theorem k4_n : am_k (-4) = nI 4294967292 := by decide +kernel
section FC
variable {d : Nat} {K : Option Value → am_M → Prop} {I : Nat → Nat → Int32} {Lg : Nat → Nat → Int64} {rr : Nat → Nat → Option Nat} {n : Nat} {b : Nat → Nat} {C : c_T} {T : m_Tt} {f k many : Nat} {wv y : Nat → Nat}
theorem s_lowestSource {a : Nat} (hd : 3 ≤ d) (hk : k < 24) (hC : c_C I b C) (hw : cw b C) (ha : am_ro 1497 a 24) (hy : ip I a y) (yl : ∀ p, p < 24 → y p < 24) (h : ∀ q, t_D C k q → (∀ p, t_D C k p → y q ≤ y p) → K (some (.int (nI q))) (am_st I Lg rr n)) : am_AC d k_Ch_lowestSource [.ref 26, .int (nI k), .ref a] (am_st I Lg rr n) K := by
  obtain ⟨d, rfl, hd1⟩ := s_up hd
  obtain ⟨r1, r2, r3, r4, r5, r6, r7⟩ := hC k hk
  have hDl : ∀ q, t_D C k q → q < 24 := fun q hq => ((hw.1.2 k hk).2.2 q hq).1
  have key : ∀ x, x ≤ 24 → ∀ low, t_D C k low → (∀ p, p < x → t_D C k p → y low ≤ y p) → am_St d k_Ch_lowestSource (am_st I Lg rr n) K 10 [some (.ref 26), some (.int (nI k)), some (.ref a), some (.int (nI low)), some (.int (nI x))] [] (am_st I Lg rr n) := by
    refine lp_up _ (fun x hx ih => ?_) ?_
    · intro low hl hp
      have ll := hDl low hl
      have nx : ∀ low2, t_D C k low2 → (∀ p, p < x + 1 → t_D C k p → y low2 ≤ y p) → am_St d k_Ch_lowestSource (am_st I Lg rr n) K 10 [some (.ref 26), some (.int (nI k)), some (.ref a), some (.int (nI low2)), some (.int (nI x + nI 1))] [] (am_st I Lg rr n) := fun low2 q1 q2 => by
        rw [nI_add]
        exact ih low2 q1 q2
      refine am_step _ _ _ (b_Ch_lowestSource_10 ⟨fun _ => s_isReached (by omega) hk hx r3 (hw.2.2 k hk).1 (fun ht => ⟨_, rfl, am_step _ _ _ (b_Ch_lowestSource_24 ⟨fun c => absurd c (by decide), fun _ => ?_⟩)⟩) (fun ht => ⟨_, rfl, am_step _ _ _ (b_Ch_lowestSource_24 ⟨fun _ => nx low hl fun p h1 h2 => ?_, fun c => absurd rfl c⟩)⟩), fun c => absurd (nI_lt hx (by decide)) c⟩)
      · refine s_Mo_to (by omega) ha hx (hy x hx) ⟨_, rfl, am_step _ _ _ (b_Ch_lowestSource_33 (s_Mo_to (by omega) ha ll (hy low ll) ⟨_, rfl, am_step _ _ _ (b_Ch_lowestSource_38 ⟨fun c => ?_, fun c => ?_⟩)⟩))⟩
        · have c : y x < y low := Nat.lt_of_not_le fun q => absurd c (nI_nlt q (by have := yl x hx; omega))
          refine nx x ht fun p h1 h2 => ?_
          by_cases e : p = x
          · rw [e]
            exact Nat.le_refl _
          · have := hp p (by omega) h2
            omega
        · have c : y low ≤ y x := Nat.le_of_not_lt fun q => c (nI_lt q (by have := yl low ll; omega))
          refine nx low hl fun p h1 h2 => ?_
          by_cases e : p = x
          · rw [e]
            exact c
          · exact hp p (by omega) h2
      · by_cases e : p = x
        · rw [e] at h2
          exact absurd h2 ht
        · exact hp p (by omega) h2
    · intro low hl hp
      exact am_step _ _ _ (b_Ch_lowestSource_10 ⟨fun c => absurd c (by decide), fun _ => h low hl fun p hq => hp p (hDl p hq) hq⟩)
  refine am_in _ _ _ (am_step _ _ _ (b_Ch_lowestSource_0 ?_))
  rw [n_un (show k < 2 ^ 32 by omega), r1]
  exact ⟨hk, key 0 (by decide) (b k) (hw.1.2 k hk).1 fun p hp => absurd hp (Nat.not_lt_zero p)⟩
theorem s_findLowest (hd : 4 ≤ d) (hC : c_C I (bs f) C) (hw : cw (bs f) C) (hW : ∀ p, p < 24 → I 1467 p = if f.testBit p then nI (wv p) else am_k (-4)) (hv : ∀ p, f.testBit p = true → wv p < 24) (hm : many = g_cnt (fun p => f.testBit p) 24) (h1 : ∀ J y, fF I J → ip J 1468 y → fr (bs f) (t_D C) (t_u C) wv many 24 y → K (some (.int (nI 1))) (am_st J Lg rr n)) (h0 : ∀ J, fF I J → f_no (bs f) (t_D C) (t_u C) wv many → K (some (.int (nI 0))) (am_st J Lg rr n)) : am_AC d k_Ch_findLowest [.ref 26, .ref 1467, .ref 1468] (am_st I Lg rr n) K := by
  obtain ⟨d, rfl, hd1⟩ := s_up hd
  have r66 : am_ro 1497 1467 24 := ⟨rfl, rfl, by decide, by decide⟩
  have r67 : am_ro 1497 1468 24 := ⟨rfl, rfl, by decide, by decide⟩
  have r31 : am_ro 1497 1331 24 := ⟨rfl, rfl, by decide, by decide⟩
  have key : ∀ k, k ≤ 24 → ∀ J y, fF I J → ip J 1468 y → fr (bs f) (t_D C) (t_u C) wv many k y → am_St d k_Ch_findLowest (am_st I Lg rr n) K 6 [some (.ref 26), some (.ref 1467), some (.ref 1468), some (.int (nI k)), none, none] [] (am_st J Lg rr n) := by
    refine lp_up _ (fun k hk ih => ?_) ?_
    · intro J y hJ hy hf
      have ym := fr_m hw.1 k (by omega) y hf
      have hCJ : c_C J (bs f) C := hC.fr hw fun a h1 h2 => hJ a (by omega) (by omega)
      obtain ⟨q1, q2, q3, q4, q5, q6, q7⟩ := hCJ k hk
      have bl := (bs_m f).1.1 k hk
      have bi := bs_in (f := f) hk
      rw [← hm] at bi
      have eW : J 1467 (bs f k) = if k < many then nI (wv (bs f k)) else am_k (-4) := by
        rw [hJ 1467 (by decide) (by decide), hW _ bl]
        by_cases c : k < many
        · rw [if_pos c, if_pos (bi.mpr c)]
        · rw [if_neg c, if_neg fun q => c (bi.mp q)]
      -- a place to go on with
      have on : ∀ (v4 : Int32) (q : Nat), q < 24 → (t_D C k q → f_q (bs f) (t_D C) wv many k y q) → (¬ t_D C k q → f_no (bs f) (t_D C) (t_u C) wv many) → am_St d k_Ch_findLowest (am_st I Lg rr n) K 46 [some (.ref 26), some (.ref 1467), some (.ref 1468), some (.int (nI k)), some (.int v4), none] [.int (nI q)] (am_st J Lg rr n) := fun v4 q hq a1 a0 => by
        refine am_step _ _ _ (b_Ch_findLowest_46 (s_isReached (by omega) hk hq q3 (hw.2.2 k hk).1 (fun ht => ⟨_, rfl, am_step _ _ _ (b_Ch_findLowest_55 ⟨fun c => absurd c (by decide), fun _ => ?_⟩)⟩) (fun ht => ⟨_, rfl, am_step _ _ _ (b_Ch_findLowest_55 ⟨fun _ => h0 J hJ (a0 ht), fun c => absurd rfl c⟩)⟩)))
        have ht : t_D C k q := ht
        have vm := ((hw.2.2 k hk).2.2.2.1 q ht).1
        refine s_back (by omega) hk hq ⟨_, rfl, am_step _ _ _ (b_Ch_findLowest_67 (c_combine (by omega) (ch_ro (by omega) (by omega) (by omega)) r67 r31 (by omega) (by decide) vm (q6 q ht) hy fun J2 hJ2 hp2 => ⟨rfl, am_step _ _ _ (b_Ch_findLowest_75 (c_assign (by omega) r67 r31 hp2 fun J3 hJ3 hp3 => ⟨rfl, am_step _ _ _ (b_Ch_findLowest_83 ?_)⟩))⟩))⟩
        rw [nI_add]
        exact am_fg (le_same _ (le_same _ (le_same _ (le_same _ (le_int _ (le_int _ le_nil)))))) (ih J3 _ (fun c c1 c2 => by rw [hJ3 c c2, hJ2 c c1, hJ c c1 c2]) hp3 ⟨y, q, hf, a1 ht, rfl⟩)
      refine am_step _ _ _ (b_Ch_findLowest_6 ⟨fun _ => ?_, fun c => absurd (nI_lt hk (by decide)) c⟩)
      rw [n_un (show k < 2 ^ 32 by omega), q1]
      by_cases c : k < many
      · rw [if_pos c] at eW
        have tl := hv _ (bi.mpr c)
        have pi := pe_i_at ym tl
        refine ⟨hk, s_Mo_to (by omega) r66 bl eW ⟨_, rfl, am_step _ _ _ (b_Ch_findLowest_22 ⟨fun e => ?_, fun _ => c_source (by omega) r67 ym hy tl ⟨_, rfl, on _ _ pi.1 (fun ht => ⟨ht, fun _ => pi.2, fun q => absurd c q⟩) fun ht => ⟨k, y, hk, c, hf, fun q hq e => ht ?_⟩⟩⟩)⟩⟩
        · have : nI (wv (bs f k)) < 0 := by
            rw [e]
            decide
          exact absurd this (nz_lt _ (by omega))
        · have : pe_i y (wv (bs f k)) = q := pe_inj ym (by rw [pi.2, e])
          rw [this]
          exact hq
      · rw [if_neg c, k4_n] at eW
        refine ⟨hk, s_Mo_to (by omega) r66 bl eW ⟨_, rfl, am_step _ _ _ (b_Ch_findLowest_22 ⟨fun _ => s_lowestSource (by omega) hk hCJ hw r67 hy ym.1.1 fun q hq hmin => ⟨_, rfl, am_step _ _ _ (b_Ch_findLowest_37 (on _ q ((hw.1.2 k hk).2.2 q hq).1 (fun _ => ⟨hq, fun c2 => absurd c2 c, fun _ => hmin⟩) fun q2 => absurd hq q2))⟩, fun e => absurd k4_n.symm e⟩)⟩⟩
    · intro J y hJ hy hf
      exact am_step _ _ _ (b_Ch_findLowest_6 ⟨fun c => absurd c (by decide), fun _ => h1 J y hJ hy hf⟩)
  exact am_in _ _ _ (am_step _ _ _ (b_Ch_findLowest_0 (c_same (by omega) r67 fun J hJ hp => ⟨rfl, am_step _ _ _ (b_Ch_findLowest_4 (key 0 (by decide) J pe_1 (fun c _ h2 => hJ c h2) hp rfl))⟩)))
/-! the model -/
def sn_v (o : Option Nat) : Int32 := match o with
  | none => am_k (-1)
  | some q => nI q
def sn_S (b : Nat → Nat) (D : Nat → Nat → Prop) (wv : Nat → Nat) (many k : Nat) (y : Nat → Nat) (x : Nat) (o : Option Nat) : Prop := match o with
  | none => ∀ q, q < x → D k q → k < many ∧ ¬ y q = wv (b k)
  | some q => D k q ∧ (k < many → y q = wv (b k)) ∧ (¬ k < many → ∀ p, p < x → D k p → y q ≤ y p)
theorem s_sends (hd : 1 ≤ d) (hk : k < 24) (hC : m_C I b T) (hw : mw b T) (hy : ip I 1484 y) (yl : ∀ p, p < 24 → y p < 24) (hwv : k < many → I 1496 (b k) = nI (wv (b k)) ∧ wv (b k) < 24) (hmany : many < 100) (h1 : ∀ q, f_q b (mt_D b T) wv many k y q → K (some (.int (nI q))) (am_st I Lg rr n)) (h0 : k < many → (∀ q, mt_D b T k q → ¬ y q = wv (b k)) → K (some (.int (am_k (-1)))) (am_st I Lg rr n)) : am_AC d k_M_sends [.ref 1469, .int (nI k), .int (nI many)] (am_st I Lg rr n) K := by
  obtain ⟨d, rfl, hd1⟩ := s_up hd
  obtain ⟨m1, m2, m3, m4⟩ := hC
  have N124 := mw_124 hw
  have bl := hw.1.1 k hk
  have ek : am_un (nI k) = k := n_un (by omega)
  have key : ∀ x, x ≤ 24 → ∀ o, sn_S b (mt_D b T) wv many k y x o → am_St d k_M_sends (am_st I Lg rr n) K 5 [some (.ref 1469), some (.int (nI k)), some (.int (nI many)), some (.int (sn_v o)), some (.int (nI x)), none, none] [] (am_st I Lg rr n) := by
    refine lp_up _ (fun x hx ih => ?_) ?_
    · intro o ho
      have ex : am_un (nI x) = x := n_un (by omega)
      have fin : ∀ (v5 v6 : Int32) (o2 : Option Nat), sn_S b (mt_D b T) wv many k y (x + 1) o2 → am_St d k_M_sends (am_st I Lg rr n) K 122 [some (.ref 1469), some (.int (nI k)), some (.int (nI many)), some (.int (sn_v o)), some (.int (nI x)), some (.int v5), some (.int v6)] [.int (sn_v o2)] (am_st I Lg rr n) := fun v5 v6 o2 h => by
        refine am_step _ _ _ (b_M_sends_122 ?_)
        rw [nI_add]
        exact am_fg (le_same _ (le_same _ (le_same _ (le_same _ (le_same _ (le_int _ (le_int _ le_nil))))))) (ih o2 h)
      have h104 : ∀ c e : Nat, c < 2 → e < 2 → (c = 1 → e = 1 → sn_S b (mt_D b T) wv many k y (x + 1) (some x)) → (¬ (c = 1 ∧ e = 1) → sn_S b (mt_D b T) wv many k y (x + 1) o) → am_St d k_M_sends (am_st I Lg rr n) K 104 [some (.ref 1469), some (.int (nI k)), some (.int (nI many)), some (.int (sn_v o)), some (.int (nI x)), some (.int (nI c)), none] [.int (nI e)] (am_st I Lg rr n) := fun c e c2 e2 q1 q2 => by
        have cc : c = 0 ∨ c = 1 := by omega
        have ee : e = 0 ∨ e = 1 := by omega
        rcases cc with rfl | rfl
        · exact am_step _ _ _ (b_M_sends_104 ⟨fun _ => am_step _ _ _ (b_M_sends_121 (fin _ _ o (q2 fun q => absurd q.1 (by decide)))), fun q => absurd rfl q⟩)
        · rcases ee with rfl | rfl
          · exact am_step _ _ _ (b_M_sends_104 ⟨fun q => absurd q (by decide), fun _ => ⟨fun _ => am_step _ _ _ (b_M_sends_121 (fin _ _ o (q2 fun q => absurd q.2 (by decide)))), fun q => absurd rfl q⟩⟩)
          · exact am_step _ _ _ (b_M_sends_104 ⟨fun q => absurd q (by decide), fun _ => ⟨fun q => absurd q (by decide), fun _ => fin _ _ (some x) (q1 rfl rfl)⟩⟩)
      have h43 : ∀ c : Nat, c < 2 → (c = 1 ↔ mt_D b T k x) → am_St d k_M_sends (am_st I Lg rr n) K 43 [some (.ref 1469), some (.int (nI k)), some (.int (nI many)), some (.int (sn_v o)), some (.int (nI x)), none, none] [.int (nI c)] (am_st I Lg rr n) := fun c c2 hc => by
        refine am_step _ _ _ (b_M_sends_43 ⟨fun q => ?_, fun q => ?_⟩)
        · have km : k < many := Nat.lt_of_not_le fun q2 => absurd q (nI_nlt q2 (by omega))
          obtain ⟨v1, v2⟩ := hwv km
          have yx := yl x hx
          rw [ex, ek, m2 k hk, n_un (show b k < 2 ^ 32 by omega), hy x hx, v1]
          refine ⟨hx, hk, bl, fun e => h104 c 1 c2 (by decide) (fun q1 _ => ?_) fun q1 => ?_, fun e => h104 c 0 c2 (by decide) (fun _ q2 => absurd q2 (by decide)) fun _ => ?_⟩
          · rw [nI_eq (by omega) (by omega)] at e
            exact ⟨hc.mp q1, fun _ => e, fun q2 => absurd km q2⟩
          · have nD : ¬ mt_D b T k x := fun h => q1 ⟨hc.mpr h, rfl⟩
            cases o with
            | none =>
              intro p hp hD
              by_cases c3 : p = x
              · rw [c3] at hD
                exact absurd hD nD
              · exact ho p (by omega) hD
            | some q0 => exact ⟨ho.1, ho.2.1, fun q2 => absurd km q2⟩
          · rw [nI_eq (by omega) (by omega)] at e
            cases o with
            | none =>
              intro p hp hD
              by_cases c3 : p = x
              · rw [c3]
                exact ⟨km, e⟩
              · exact ho p (by omega) hD
            | some q0 => exact ⟨ho.1, ho.2.1, fun q2 => absurd km q2⟩
        · have km : ¬ k < many := fun q2 => q (nI_lt q2 (by omega))
          cases o with
          | none =>
            have nD : ∀ p, p < x → ¬ mt_D b T k p := fun p hp hD => km (ho p hp hD).1
            refine ⟨fun _ => am_step _ _ _ (b_M_sends_99 (h104 c 1 c2 (by decide) (fun q1 _ => ⟨hc.mp q1, fun q2 => absurd q2 km, fun _ p hp hD => ?_⟩) fun q1 p hp hD => ?_)), fun q2 => absurd (by decide) q2⟩
            · by_cases c3 : p = x
              · rw [c3]
                exact Nat.le_refl _
              · exact absurd hD (nD p (by omega))
            · by_cases c3 : p = x
              · rw [c3] at hD
                exact absurd ⟨hc.mpr hD, rfl⟩ q1
              · exact absurd hD (nD p (by omega))
          | some q0 =>
            have ql := ho.1.1
            have yx := yl x hx
            have yq := yl q0 ql
            refine ⟨fun q2 => absurd q2 (nz_lt q0 (by omega)), fun _ => ?_⟩
            show am_un (nI x) < 24 ∧ am_un (nI q0) < 24 ∧ (I 1484 (am_un (nI x)) < I 1484 (am_un (nI q0)) → _) ∧ (¬ I 1484 (am_un (nI x)) < I 1484 (am_un (nI q0)) → _)
            rw [ex, n_un (show q0 < 2 ^ 32 by omega), hy x hx, hy q0 ql]
            refine ⟨hx, ql, fun e => am_step _ _ _ (b_M_sends_99 (h104 c 1 c2 (by decide) (fun q1 _ => ⟨hc.mp q1, fun q2 => absurd q2 km, fun _ p hp hD => ?_⟩) fun q1 => ⟨ho.1, ho.2.1, fun _ p hp hD => ?_⟩)), fun e => h104 c 0 c2 (by decide) (fun _ q2 => absurd q2 (by decide)) fun _ => ⟨ho.1, ho.2.1, fun _ p hp hD => ?_⟩⟩
            · have e : y x < y q0 := Nat.lt_of_not_le fun q2 => absurd e (nI_nlt q2 (by omega))
              by_cases c3 : p = x
              · rw [c3]
                exact Nat.le_refl _
              · have := ho.2.2 km p (by omega) hD
                omega
            · by_cases c3 : p = x
              · rw [c3] at hD
                exact absurd ⟨hc.mpr hD, rfl⟩ q1
              · exact ho.2.2 km p (by omega) hD
            · have e : y q0 ≤ y x := Nat.le_of_not_lt fun q2 => e (nI_lt q2 (by omega))
              by_cases c3 : p = x
              · rw [c3]
                exact e
              · exact ho.2.2 km p (by omega) hD
      refine am_step _ _ _ (b_M_sends_5 ⟨fun _ => ?_, fun c => absurd (nI_lt hx (by decide)) c⟩)
      rw [ek, m2 k hk, pk_mul, nI_add, n_un (show 24 * k + x < 2 ^ 32 by omega), m3 k x hk hx]
      refine ⟨hk, fun e => ?_, fun e => ⟨by omega, fun e2 => ?_, fun e2 => ?_⟩⟩
      · rw [nI_eq (by omega) (by omega)] at e
        exact am_step _ _ _ (b_M_sends_38 (h43 1 (by decide) ⟨fun _ => ⟨hx, Or.inl e⟩, fun _ => rfl⟩))
      · rw [nI_eq (by omega) (by omega)] at e
        have E0 : T.2.2.1 k x = 0 := Classical.byContradiction fun c2 => by
          rw [if_neg c2] at e2
          have := (hw.2.1 k x hk hx c2).1
          exact nz_lt _ (by omega) e2
        exact h43 0 (by decide) ⟨fun q => absurd q (by decide), fun q => (q.2.elim e fun q2 => q2 E0).elim⟩
      · have E1 : ¬ T.2.2.1 k x = 0 := fun c2 => e2 (by rw [if_pos c2]; decide)
        exact am_step _ _ _ (b_M_sends_38 (h43 1 (by decide) ⟨fun _ => ⟨hx, Or.inr E1⟩, fun _ => rfl⟩))
    · intro o ho
      refine am_step _ _ _ (b_M_sends_5 ⟨fun c => absurd c (by decide), fun _ => ?_⟩)
      cases o with
      | none => exact h0 (ho (b k) bl ⟨bl, Or.inl rfl⟩).1 fun q hq => (ho q hq.1 hq).2
      | some q0 => exact h1 q0 ⟨ho.1, ho.2.1, fun km p hD => ho.2.2 km p hD.1 hD⟩
  exact am_in _ _ _ (am_step _ _ _ (b_M_sends_0 (key 0 (by decide) none fun q hq => absurd hq (Nat.not_lt_zero q))))
theorem s_finds (hd : 2 ≤ d) (hC : m_C I b T) (hw : mw b T) (hwv : ∀ k, k < 24 → k < many → I 1496 (b k) = nI (wv (b k)) ∧ wv (b k) < 24) (hmany : many < 100) (h1 : ∀ J y, rst I J → ip J 1484 y → fr b (mt_D b T) (mt_u T) wv many 24 y → K (some (.int (nI 1))) (am_st J Lg rr n)) (h0 : ∀ J, rst I J → f_no b (mt_D b T) (mt_u T) wv many → K (some (.int (nI 0))) (am_st J Lg rr n)) : am_AC d k_M_finds [.ref 1469, .int (nI many)] (am_st I Lg rr n) K := by
  obtain ⟨d, rfl, hd1⟩ := s_up hd
  have N124 := mw_124 hw
  have ht := mw_ta hw
  have key : ∀ k, k ≤ 24 → ∀ J y, rst I J → ip J 1484 y → fr b (mt_D b T) (mt_u T) wv many k y → am_St d k_M_finds (am_st I Lg rr n) K 23 [some (.ref 1469), some (.int (nI many)), some (.int (nI k)), none, none, none] [] (am_st J Lg rr n) := by
    refine lp_up _ (fun k hk ih => ?_) ?_
    · intro J y hJ hy hf
      have ym := fr_m ht k (by omega) y hf
      have hCJ := hC.fr hJ
      have ⟨m1, m2, m3, m4⟩ := hCJ
      refine am_step _ _ _ (b_M_finds_23 ⟨fun _ => s_sends (by omega) hk hCJ hw hy ym.1.1 (fun km => by rw [hJ 1496 (by decide) (by decide)]; exact hwv k hk km) hmany (fun q hq => ⟨_, rfl, am_step _ _ _ (b_M_finds_35 ⟨fun c => absurd c (nz_lt q (by have := hq.1.1; omega)), fun _ => ?_⟩)⟩) fun km hno => ⟨_, rfl, am_step _ _ _ (b_M_finds_35 ⟨fun _ => h0 J hJ ⟨k, y, hk, km, hf, hno⟩, fun c => absurd (by decide) c⟩)⟩, fun c => absurd (nI_lt hk (by decide)) c⟩)
      have q24 := hq.1.1
      rw [pk_mul, nI_add, n_un (show 24 * k + q < 2 ^ 32 by omega), m3 k q hk q24]
      refine ⟨by omega, ?_⟩
      have um := ((ht.2 k hk).2.2 q hq.1).2.1
      generalize hz : (if T.2.2.1 k q = 0 then am_k (-1) else nI (T.2.2.1 k q - 1)) = z
      have cp2 : ∀ p, p ≤ 24 → ∀ L, rst I L → ip L 1479 (pe_c y (mt_u T k q)) → (∀ j, j < p → L 1484 j = nI (pe_c y (mt_u T k q) j)) → am_St d k_M_finds (am_st I Lg rr n) K 114 [some (.ref 1469), some (.int (nI many)), some (.int (nI k)), some (.int (nI q)), some (.int z), some (.int (nI p))] [] (am_st L Lg rr n) := by
        refine lp_up _ (fun p hp ih2 => ?_) ?_
        · intro L hL hr hj
          refine am_step _ _ _ (b_M_finds_114 ⟨fun _ => ?_, fun c => absurd (nI_lt hp (by decide)) c⟩)
          rw [n_un (show p < 2 ^ 32 by omega), nI_add, hr p hp]
          refine ⟨hp, hp, ih2 _ (fun c c1 c2 => by rw [am_sr_off _ _ c2, hL c c1 c2]) (fun j hj2 => by rw [am_sr_off _ _ (by decide)]; exact hr j hj2) fun j hjp => ?_⟩
          rw [am_sr_at]
          by_cases c : j = p
          · rw [c, am_u1_at]
          · rw [am_u1_off _ _ c]
            exact hj j (by omega)
        · intro L hL hr hj
          refine am_step _ _ _ (b_M_finds_114 ⟨fun c => absurd c (by decide), fun _ => ?_⟩)
          rw [nI_add]
          exact am_fg (le_same _ (le_same _ (le_same _ (le_int _ (le_int _ (le_int _ le_nil)))))) (ih L _ hL hj ⟨y, q, hf, hq, rfl⟩)
      have cp1 : ∀ p, p ≤ 24 → ∀ L, nb1 J L 1479 → (∀ j, j < p → L 1479 j = nI (pe_c y (mt_u T k q) j)) → am_St d k_M_finds (am_st I Lg rr n) K 58 [some (.ref 1469), some (.int (nI many)), some (.int (nI k)), some (.int (nI q)), some (.int z), some (.int (nI p))] [] (am_st L Lg rr n) := by
        refine lp_up _ (fun p hp ih2 => ?_) ?_
        · intro L hL hj
          have nx : ∀ v : Nat, v = pe_c y (mt_u T k q) p → am_St d k_M_finds (am_st I Lg rr n) K 58 [some (.ref 1469), some (.int (nI many)), some (.int (nI k)), some (.int (nI q)), some (.int z), some (.int (nI p + nI 1))] [] (am_st (am_sr L 1479 (am_u1 (L 1479) p (nI v))) Lg rr n) := fun v hv => by
            rw [nI_add]
            refine ih2 _ (fun c hc => by rw [am_sr_off _ _ hc, hL c hc]) fun j hjp => ?_
            rw [am_sr_at]
            by_cases c : j = p
            · rw [c, am_u1_at, hv]
            · rw [am_u1_off _ _ c]
              exact hj j (by omega)
          refine am_step _ _ _ (b_M_finds_58 ⟨fun _ => ?_, fun c => absurd (nI_lt hp (by decide)) c⟩)
          by_cases E : T.2.2.1 k q = 0
          · have eu : mt_u T k q = pe_1 := if_pos E
            rw [if_pos E] at hz
            rw [n_un (show p < 2 ^ 32 by omega), show L 1484 p = nI (y p) by rw [hL 1484 (by decide), hy p hp]]
            refine ⟨fun _ => ⟨hp, hp, nx _ (by rw [eu]; rfl)⟩, fun c => absurd (by rw [← hz]; decide) c⟩
          · have eu : mt_u T k q = T.2.2.2 (T.2.2.1 k q - 1) := if_neg E
            rw [if_neg E] at hz
            obtain ⟨a1, a2, a3, a4⟩ := hw.2.1 k q hk q24 E
            have wl := (hw.2.2 _ a1).2.1.1.1 p hp
            refine ⟨fun c => absurd (hz ▸ c) (nz_lt _ (by omega)), fun _ => ?_⟩
            rw [← hz, pk_mul, nI_add, n_un (show 24 * (T.2.2.1 k q - 1) + p < 2 ^ 32 by omega), show L 1482 (24 * (T.2.2.1 k q - 1) + p) = nI (T.2.2.2 (T.2.2.1 k q - 1) p) by rw [hL 1482 (by decide), (m4 _ a1).2 p hp], n_un (show T.2.2.2 (T.2.2.1 k q - 1) p < 2 ^ 32 by omega), n_un (show p < 2 ^ 32 by omega), show L 1484 (T.2.2.2 (T.2.2.1 k q - 1) p) = nI (y (T.2.2.2 (T.2.2.1 k q - 1) p)) by rw [hL 1484 (by decide), hy _ wl], hz]
            exact ⟨by omega, wl, hp, nx _ (by rw [eu]; rfl)⟩
        · intro L hL hj
          refine am_step _ _ _ (b_M_finds_58 ⟨fun c => absurd c (by decide), fun _ => cp2 0 (by decide) L (fun c c1 c2 => by rw [hL c c1, hJ c c1 c2]) hj fun j hj2 => absurd hj2 (Nat.not_lt_zero j)⟩)
      exact cp1 0 (by decide) J (fun _ _ => rfl) fun j hj => absurd hj (Nat.not_lt_zero j)
    · intro J y hJ hy hf
      exact am_step _ _ _ (b_M_finds_23 ⟨fun c => absurd c (by decide), fun _ => h1 J y hJ hy hf⟩)
  have start : ∀ p, p ≤ 24 → ∀ J, nb1 I J 1484 → (∀ j, j < p → J 1484 j = nI j) → am_St d k_M_finds (am_st I Lg rr n) K 2 [some (.ref 1469), some (.int (nI many)), some (.int (nI p)), none, none, none] [] (am_st J Lg rr n) := by
    refine lp_up _ (fun p hp ih => ?_) ?_
    · intro J hJ hj
      refine am_step _ _ _ (b_M_finds_2 ⟨fun _ => ?_, fun c => absurd (nI_lt hp (by decide)) c⟩)
      rw [n_un (show p < 2 ^ 32 by omega), nI_add]
      refine ⟨hp, ih _ (fun c hc => by rw [am_sr_off _ _ hc, hJ c hc]) fun j hjp => ?_⟩
      rw [am_sr_at]
      by_cases c : j = p
      · rw [c, am_u1_at]
      · rw [am_u1_off _ _ c]
        exact hj j (by omega)
    · intro J hJ hj
      exact am_step _ _ _ (b_M_finds_2 ⟨fun c => absurd c (by decide), fun _ => key 0 (by decide) J pe_1 (fun c _ h2 => hJ c h2) hj rfl⟩)
  exact am_in _ _ _ (am_step _ _ _ (b_M_finds_0 (start 0 (by decide) I (fun _ _ => rfl) fun j hj => absurd hj (Nat.not_lt_zero j))))
end FC
