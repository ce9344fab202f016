/-! THE LAW LOOP: if each operation answers alike, and keeps V, the law answers true -/
theorem fa0_lt (a b : Int32) : a < b ↔ a.toInt < b.toInt := Int32.lt_iff_toInt_lt
abbrev lw_V : Type := (Nat → Nat → Int32) → (Nat → Nat → Int64) → (Nat → Nat → Option Nat) → Nat → Prop
/-- the class and the reference answer alike, and V holds again -/
def lw_Op (V : lw_V) (kx km : Nat) (as : List Value) : Prop := ∀ I Lg rr n, V I Lg rr n → am_AC 100 kx (.ref 12 :: as) (am_st I Lg rr n) (am_qi fun x M1 => ∃ I1 Lg1 rr1, M1 = am_st I1 Lg1 rr1 n ∧ I1 0 = I 0 ∧ am_AC 100 km (.ref 1469 :: as) M1 (am_qi fun y M2 => ∃ I2 Lg2 rr2, M2 = am_st I2 Lg2 rr2 n ∧ y = x ∧ V I2 Lg2 rr2 n))
set_option maxHeartbeats 4000000 in
theorem lw_loop {V : lw_V} (o0 : ∀ a0 : Int32, ∀ a1 : Int32, lw_Op V k_X_word k_M_word [.int a0, .int a1])
  (o1 : ∀ a0 : Int32, ∀ a1 : Int32, lw_Op V k_X_block k_M_block [.int a0, .int a1])
  (o2 : ∀ a0 : Int32, lw_Op V k_X_complete k_M_complete [.int a0])
  (o3 : ∀ a0 : Int32, ∀ a1 : Int32, lw_Op V k_X_sextet k_M_sextet [.int a0, .int a1])
  (o4 : ∀ a0 : Int32, ∀ a1 : Int32, lw_Op V k_X_both k_M_both [.int a0, .int a1])
  (o5 : ∀ a0 : Int32, ∀ a1 : Int32, lw_Op V k_X_met k_M_met [.int a0, .int a1])
  (o6 : ∀ a0 : Int32, ∀ a1 : Int32, lw_Op V k_X_move k_M_move [.int a0, .int a1])
  (o7 : ∀ a0 : Int32, ∀ a1 : Int32, lw_Op V k_X_told k_M_told [.int a0, .int a1])
  (o8 : ∀ a0 : Int32, ∀ a1 : Int32, lw_Op V k_X_letter k_M_letter [.int a0, .int a1])
  (o9 : ∀ a0 : Int32, ∀ a1 : Int32, lw_Op V k_X_sent k_M_sent [.int a0, .int a1])
  (o10 : ∀ a0 : Int32, lw_Op V k_X_type k_M_type [.int a0])
  (o11 : ∀ a0 : Int32, lw_Op V k_X_read k_M_read [.int a0])
  (o12 : ∀ a0 : Int32, ∀ a1 : Int32, lw_Op V k_X_group k_M_group [.int a0, .int a1])
  (o13 : ∀ a0 : Int32, ∀ a1 : Int32, ∀ a2 : Int32, lw_Op V k_X_held k_M_held [.int a0, .int a1, .int a2])
  (o14 : ∀ a0 : Int32, ∀ a1 : Int32, lw_Op V k_X_holds k_M_holds [.int a0, .int a1])
  (o15 : ∀ a0 : Int32, lw_Op V k_X_choose k_M_choose [.int a0])
  (o16 : ∀ a0 : Int32, lw_Op V k_X_hexad k_M_hexad [.int a0])
  (o17 : ∀ a0 : Int32, ∀ a1 : Int32, lw_Op V k_X_turn k_M_turn [.int a0, .int a1])
  (o18 : ∀ a0 : Int32, lw_Op V k_X_pair k_M_pair [.int a0])
  (o19 : ∀ a0 : Int32, lw_Op V k_X_drift k_M_drift [.int a0])
  (o20 : lw_Op V k_X_undo k_M_undo [])
  (o21 : ∀ a0 : Int32, lw_Op V k_X_seed k_M_seed [.int a0])
  (o22 : ∀ a0 : Int32, lw_Op V k_X_count k_M_count [.int a0])
  (o23 : lw_Op V k_X_image k_M_image [])
  (o24 : lw_Op V k_X_restore k_M_restore [])
  (o25 : ∀ a0 : Int32, ∀ a1 : Int32, ∀ a2 : Int32, ∀ a3 : Int32, ∀ a4 : Int32, lw_Op V k_X_retrace k_M_retrace [.int a0, .int a1, .int a2, .int a3, .int a4])
  (o26 : ∀ a0 : Int32, ∀ a1 : Int32, ∀ a2 : Int32, ∀ a3 : Int32, lw_Op V k_X_film k_M_film [.int a0, .int a1, .int a2, .int a3])
  (o27 : ∀ a0 : Int32, ∀ a1 : Int32, ∀ a2 : Int32, lw_Op V k_X_sheet k_M_sheet [.int a0, .int a1, .int a2])
  (o28 : ∀ a0 : Int32, lw_Op V k_X_drop k_M_drop [.int a0])
  (o29 : ∀ a0 : Int32, ∀ a1 : Int32, ∀ a2 : Int32, ∀ a3 : Int64, lw_Op V k_X_item k_M_item [.int a0, .int a1, .int a2, .long a3])
  (o30 : ∀ a0 : Int32, ∀ a1 : Int32, ∀ a2 : Int32, ∀ a3 : Int32, ∀ a4 : Int32, lw_Op V k_X_copy k_M_copy [.int a0, .int a1, .int a2, .int a3, .int a4]) {n : Nat} (hn : n ≤ 3072) :
    ∀ (m i : Nat) (I : Nat → Nat → Int32) (Lg : Nat → Nat → Int64) (rr : Nat → Nat → Option Nat), n + 6 - i ≤ m → i ≤ n → V I Lg rr n →
      am_WP am_mt (am_AC 100) tb_257 1497 78378 (fun v _ => v = some (.int 1)) 18 [some (.ref 0), some (.ref 12), some (.ref 1469), some (.int (nI i))] [] (am_st I Lg rr n) := by
  intro m
  induction m with
  | zero => intro i I Lg rr h1 h2; omega
  | succ m ih =>
    intro i I Lg rr h1 h2 hV
    refine am_go (am_AC_mono 100) lw_cuts 400 (b_L_law_18 ⟨fun _ => rfl, fun q => ?_⟩)
    have hi : i + 6 ≤ n := by
      rcases Nat.lt_or_ge n 6 with h6 | h6
      · refine absurd ?_ q
        rw [fa0_lt, pk_sub_toInt (by omega) (by decide), nI_toInt (by omega)]
        omega
      · rw [pk_sub h6, nI_ltI (by omega) (by omega)] at q
        omega
    have hb0 : am_un (nI i) < n := by rw [n_un (by omega)]; omega
    have hb : ∀ j, j < 6 → am_un (nI i + nI j) < n := fun j hj => by rw [nI_add, n_un (by omega)]; omega
    have nx : ∀ I2 Lg2 rr2, V I2 Lg2 rr2 n → am_WP am_mt (am_AC 100) tb_257 1497 78378 (fun v _ => v = some (.int 1)) 18 [some (.ref 0), some (.ref 12), some (.ref 1469), some (.int (nI i + nI 6))] [] (am_st I2 Lg2 rr2 n) := fun I2 Lg2 rr2 hV2 => by
      rw [nI_add]
      exact ih (i + 6) I2 Lg2 rr2 (by omega) hi hV2
    refine ⟨hb0, ?_⟩
    refine ⟨fun _ => ?_, fun _ => ?_⟩
    · refine ⟨hb 1 (by decide), hb 2 (by decide), am_AC_post (fun v M hh => ?_) (o0 _ _ I Lg rr n hV)⟩
      obtain ⟨x, rfl, I1, Lg1, rr1, rfl, e, hm⟩ := hh
      refine ⟨x, rfl, am_go (am_AC_mono 100) lw_cuts 400 (b_L_law_186 ?_)⟩
      rw [e]
      refine ⟨hb 1 (by decide), hb 2 (by decide), am_AC_post (fun v M hh => ?_) hm⟩
      obtain ⟨y, rfl, I2, Lg2, rr2, rfl, rfl, hV2⟩ := hh
      exact ⟨y, rfl, am_go (am_AC_mono 100) lw_cuts 400 (b_L_law_200 ⟨fun _ => nx I2 Lg2 rr2 hV2, fun q2 => absurd rfl q2⟩)⟩
    refine ⟨fun _ => ?_, fun _ => ?_⟩
    · refine ⟨hb 1 (by decide), hb 2 (by decide), am_AC_post (fun v M hh => ?_) (o1 _ _ I Lg rr n hV)⟩
      obtain ⟨x, rfl, I1, Lg1, rr1, rfl, e, hm⟩ := hh
      refine ⟨x, rfl, am_go (am_AC_mono 100) lw_cuts 400 (b_L_law_219 ?_)⟩
      rw [e]
      refine ⟨hb 1 (by decide), hb 2 (by decide), am_AC_post (fun v M hh => ?_) hm⟩
      obtain ⟨y, rfl, I2, Lg2, rr2, rfl, rfl, hV2⟩ := hh
      exact ⟨y, rfl, am_go (am_AC_mono 100) lw_cuts 400 (b_L_law_233 ⟨fun _ => nx I2 Lg2 rr2 hV2, fun q2 => absurd rfl q2⟩)⟩
    refine ⟨fun _ => ?_, fun _ => ?_⟩
    · refine ⟨hb 1 (by decide), am_AC_post (fun v M hh => ?_) (o2 _ I Lg rr n hV)⟩
      obtain ⟨x, rfl, I1, Lg1, rr1, rfl, e, hm⟩ := hh
      refine ⟨x, rfl, am_go (am_AC_mono 100) lw_cuts 400 (b_L_law_247 ?_)⟩
      rw [e]
      refine ⟨hb 1 (by decide), am_AC_post (fun v M hh => ?_) hm⟩
      obtain ⟨y, rfl, I2, Lg2, rr2, rfl, rfl, hV2⟩ := hh
      exact ⟨y, rfl, am_go (am_AC_mono 100) lw_cuts 400 (b_L_law_256 ⟨fun _ => nx I2 Lg2 rr2 hV2, fun q2 => absurd rfl q2⟩)⟩
    refine ⟨fun _ => ?_, fun _ => ?_⟩
    · refine ⟨hb 1 (by decide), hb 2 (by decide), am_AC_post (fun v M hh => ?_) (o3 _ _ I Lg rr n hV)⟩
      obtain ⟨x, rfl, I1, Lg1, rr1, rfl, e, hm⟩ := hh
      refine ⟨x, rfl, am_go (am_AC_mono 100) lw_cuts 400 (b_L_law_275 ?_)⟩
      rw [e]
      refine ⟨hb 1 (by decide), hb 2 (by decide), am_AC_post (fun v M hh => ?_) hm⟩
      obtain ⟨y, rfl, I2, Lg2, rr2, rfl, rfl, hV2⟩ := hh
      exact ⟨y, rfl, am_go (am_AC_mono 100) lw_cuts 400 (b_L_law_289 ⟨fun _ => nx I2 Lg2 rr2 hV2, fun q2 => absurd rfl q2⟩)⟩
    refine ⟨fun _ => ?_, fun _ => ?_⟩
    · refine ⟨hb 1 (by decide), hb 2 (by decide), am_AC_post (fun v M hh => ?_) (o4 _ _ I Lg rr n hV)⟩
      obtain ⟨x, rfl, I1, Lg1, rr1, rfl, e, hm⟩ := hh
      refine ⟨x, rfl, am_go (am_AC_mono 100) lw_cuts 400 (b_L_law_308 ?_)⟩
      rw [e]
      refine ⟨hb 1 (by decide), hb 2 (by decide), am_AC_post (fun v M hh => ?_) hm⟩
      obtain ⟨y, rfl, I2, Lg2, rr2, rfl, rfl, hV2⟩ := hh
      exact ⟨y, rfl, am_go (am_AC_mono 100) lw_cuts 400 (b_L_law_322 ⟨fun _ => nx I2 Lg2 rr2 hV2, fun q2 => absurd rfl q2⟩)⟩
    refine ⟨fun _ => ?_, fun _ => ?_⟩
    · refine ⟨hb 1 (by decide), hb 2 (by decide), am_AC_post (fun v M hh => ?_) (o5 _ _ I Lg rr n hV)⟩
      obtain ⟨x, rfl, I1, Lg1, rr1, rfl, e, hm⟩ := hh
      refine ⟨x, rfl, am_go (am_AC_mono 100) lw_cuts 400 (b_L_law_341 ?_)⟩
      rw [e]
      refine ⟨hb 1 (by decide), hb 2 (by decide), am_AC_post (fun v M hh => ?_) hm⟩
      obtain ⟨y, rfl, I2, Lg2, rr2, rfl, rfl, hV2⟩ := hh
      exact ⟨y, rfl, am_go (am_AC_mono 100) lw_cuts 400 (b_L_law_355 ⟨fun _ => nx I2 Lg2 rr2 hV2, fun q2 => absurd rfl q2⟩)⟩
    refine ⟨fun _ => ?_, fun _ => ?_⟩
    · refine ⟨hb 1 (by decide), hb 2 (by decide), am_AC_post (fun v M hh => ?_) (o6 _ _ I Lg rr n hV)⟩
      obtain ⟨x, rfl, I1, Lg1, rr1, rfl, e, hm⟩ := hh
      refine ⟨x, rfl, am_go (am_AC_mono 100) lw_cuts 400 (b_L_law_374 ?_)⟩
      rw [e]
      refine ⟨hb 1 (by decide), hb 2 (by decide), am_AC_post (fun v M hh => ?_) hm⟩
      obtain ⟨y, rfl, I2, Lg2, rr2, rfl, rfl, hV2⟩ := hh
      exact ⟨y, rfl, am_go (am_AC_mono 100) lw_cuts 400 (b_L_law_388 ⟨fun _ => nx I2 Lg2 rr2 hV2, fun q2 => absurd rfl q2⟩)⟩
    refine ⟨fun _ => ?_, fun _ => ?_⟩
    · refine ⟨hb 1 (by decide), hb 2 (by decide), am_AC_post (fun v M hh => ?_) (o7 _ _ I Lg rr n hV)⟩
      obtain ⟨x, rfl, I1, Lg1, rr1, rfl, e, hm⟩ := hh
      refine ⟨x, rfl, am_go (am_AC_mono 100) lw_cuts 400 (b_L_law_407 ?_)⟩
      rw [e]
      refine ⟨hb 1 (by decide), hb 2 (by decide), am_AC_post (fun v M hh => ?_) hm⟩
      obtain ⟨y, rfl, I2, Lg2, rr2, rfl, rfl, hV2⟩ := hh
      exact ⟨y, rfl, am_go (am_AC_mono 100) lw_cuts 400 (b_L_law_421 ⟨fun _ => nx I2 Lg2 rr2 hV2, fun q2 => absurd rfl q2⟩)⟩
    refine ⟨fun _ => ?_, fun _ => ?_⟩
    · refine ⟨hb 1 (by decide), hb 2 (by decide), am_AC_post (fun v M hh => ?_) (o8 _ _ I Lg rr n hV)⟩
      obtain ⟨x, rfl, I1, Lg1, rr1, rfl, e, hm⟩ := hh
      refine ⟨x, rfl, am_go (am_AC_mono 100) lw_cuts 400 (b_L_law_440 ?_)⟩
      rw [e]
      refine ⟨hb 1 (by decide), hb 2 (by decide), am_AC_post (fun v M hh => ?_) hm⟩
      obtain ⟨y, rfl, I2, Lg2, rr2, rfl, rfl, hV2⟩ := hh
      exact ⟨y, rfl, am_go (am_AC_mono 100) lw_cuts 400 (b_L_law_454 ⟨fun _ => nx I2 Lg2 rr2 hV2, fun q2 => absurd rfl q2⟩)⟩
    refine ⟨fun _ => ?_, fun _ => ?_⟩
    · refine ⟨hb 1 (by decide), hb 2 (by decide), am_AC_post (fun v M hh => ?_) (o9 _ _ I Lg rr n hV)⟩
      obtain ⟨x, rfl, I1, Lg1, rr1, rfl, e, hm⟩ := hh
      refine ⟨x, rfl, am_go (am_AC_mono 100) lw_cuts 400 (b_L_law_473 ?_)⟩
      rw [e]
      refine ⟨hb 1 (by decide), hb 2 (by decide), am_AC_post (fun v M hh => ?_) hm⟩
      obtain ⟨y, rfl, I2, Lg2, rr2, rfl, rfl, hV2⟩ := hh
      exact ⟨y, rfl, am_go (am_AC_mono 100) lw_cuts 400 (b_L_law_487 ⟨fun _ => nx I2 Lg2 rr2 hV2, fun q2 => absurd rfl q2⟩)⟩
    refine ⟨fun _ => ?_, fun _ => ?_⟩
    · refine ⟨hb 1 (by decide), am_AC_post (fun v M hh => ?_) (o10 _ I Lg rr n hV)⟩
      obtain ⟨x, rfl, I1, Lg1, rr1, rfl, e, hm⟩ := hh
      refine ⟨x, rfl, am_go (am_AC_mono 100) lw_cuts 400 (b_L_law_501 ?_)⟩
      rw [e]
      refine ⟨hb 1 (by decide), am_AC_post (fun v M hh => ?_) hm⟩
      obtain ⟨y, rfl, I2, Lg2, rr2, rfl, rfl, hV2⟩ := hh
      exact ⟨y, rfl, am_go (am_AC_mono 100) lw_cuts 400 (b_L_law_510 ⟨fun _ => nx I2 Lg2 rr2 hV2, fun q2 => absurd rfl q2⟩)⟩
    refine ⟨fun _ => ?_, fun _ => ?_⟩
    · refine ⟨hb 1 (by decide), am_AC_post (fun v M hh => ?_) (o11 _ I Lg rr n hV)⟩
      obtain ⟨x, rfl, I1, Lg1, rr1, rfl, e, hm⟩ := hh
      refine ⟨x, rfl, am_go (am_AC_mono 100) lw_cuts 400 (b_L_law_524 ?_)⟩
      rw [e]
      refine ⟨hb 1 (by decide), am_AC_post (fun v M hh => ?_) hm⟩
      obtain ⟨y, rfl, I2, Lg2, rr2, rfl, rfl, hV2⟩ := hh
      exact ⟨y, rfl, am_go (am_AC_mono 100) lw_cuts 400 (b_L_law_533 ⟨fun _ => nx I2 Lg2 rr2 hV2, fun q2 => absurd rfl q2⟩)⟩
    refine ⟨fun _ => ?_, fun _ => ?_⟩
    · refine ⟨hb 1 (by decide), hb 2 (by decide), am_AC_post (fun v M hh => ?_) (o12 _ _ I Lg rr n hV)⟩
      obtain ⟨x, rfl, I1, Lg1, rr1, rfl, e, hm⟩ := hh
      refine ⟨x, rfl, am_go (am_AC_mono 100) lw_cuts 400 (b_L_law_552 ?_)⟩
      rw [e]
      refine ⟨hb 1 (by decide), hb 2 (by decide), am_AC_post (fun v M hh => ?_) hm⟩
      obtain ⟨y, rfl, I2, Lg2, rr2, rfl, rfl, hV2⟩ := hh
      exact ⟨y, rfl, am_go (am_AC_mono 100) lw_cuts 400 (b_L_law_566 ⟨fun _ => nx I2 Lg2 rr2 hV2, fun q2 => absurd rfl q2⟩)⟩
    refine ⟨fun _ => ?_, fun _ => ?_⟩
    · refine ⟨hb 1 (by decide), hb 2 (by decide), hb 3 (by decide), am_AC_post (fun v M hh => ?_) (o13 _ _ _ I Lg rr n hV)⟩
      obtain ⟨x, rfl, I1, Lg1, rr1, rfl, e, hm⟩ := hh
      refine ⟨x, rfl, am_go (am_AC_mono 100) lw_cuts 400 (b_L_law_590 ?_)⟩
      rw [e]
      refine ⟨hb 1 (by decide), hb 2 (by decide), hb 3 (by decide), am_AC_post (fun v M hh => ?_) hm⟩
      obtain ⟨y, rfl, I2, Lg2, rr2, rfl, rfl, hV2⟩ := hh
      exact ⟨y, rfl, am_go (am_AC_mono 100) lw_cuts 400 (b_L_law_609 ⟨fun _ => nx I2 Lg2 rr2 hV2, fun q2 => absurd rfl q2⟩)⟩
    refine ⟨fun _ => ?_, fun _ => ?_⟩
    · refine ⟨hb 1 (by decide), hb 2 (by decide), am_AC_post (fun v M hh => ?_) (o14 _ _ I Lg rr n hV)⟩
      obtain ⟨x, rfl, I1, Lg1, rr1, rfl, e, hm⟩ := hh
      refine ⟨x, rfl, am_go (am_AC_mono 100) lw_cuts 400 (b_L_law_628 ?_)⟩
      rw [e]
      refine ⟨hb 1 (by decide), hb 2 (by decide), am_AC_post (fun v M hh => ?_) hm⟩
      obtain ⟨y, rfl, I2, Lg2, rr2, rfl, rfl, hV2⟩ := hh
      exact ⟨y, rfl, am_go (am_AC_mono 100) lw_cuts 400 (b_L_law_642 ⟨fun _ => nx I2 Lg2 rr2 hV2, fun q2 => absurd rfl q2⟩)⟩
    refine ⟨fun _ => ?_, fun _ => ?_⟩
    · refine ⟨hb 1 (by decide), am_AC_post (fun v M hh => ?_) (o15 _ I Lg rr n hV)⟩
      obtain ⟨x, rfl, I1, Lg1, rr1, rfl, e, hm⟩ := hh
      refine ⟨x, rfl, am_go (am_AC_mono 100) lw_cuts 400 (b_L_law_656 ?_)⟩
      rw [e]
      refine ⟨hb 1 (by decide), am_AC_post (fun v M hh => ?_) hm⟩
      obtain ⟨y, rfl, I2, Lg2, rr2, rfl, rfl, hV2⟩ := hh
      exact ⟨y, rfl, am_go (am_AC_mono 100) lw_cuts 400 (b_L_law_665 ⟨fun _ => nx I2 Lg2 rr2 hV2, fun q2 => absurd rfl q2⟩)⟩
    refine ⟨fun _ => ?_, fun _ => ?_⟩
    · refine ⟨hb 1 (by decide), am_AC_post (fun v M hh => ?_) (o16 _ I Lg rr n hV)⟩
      obtain ⟨x, rfl, I1, Lg1, rr1, rfl, e, hm⟩ := hh
      refine ⟨x, rfl, am_go (am_AC_mono 100) lw_cuts 400 (b_L_law_679 ?_)⟩
      rw [e]
      refine ⟨hb 1 (by decide), am_AC_post (fun v M hh => ?_) hm⟩
      obtain ⟨y, rfl, I2, Lg2, rr2, rfl, rfl, hV2⟩ := hh
      exact ⟨y, rfl, am_go (am_AC_mono 100) lw_cuts 400 (b_L_law_688 ⟨fun _ => nx I2 Lg2 rr2 hV2, fun q2 => absurd rfl q2⟩)⟩
    refine ⟨fun _ => ?_, fun _ => ?_⟩
    · refine ⟨hb 1 (by decide), hb 2 (by decide), am_AC_post (fun v M hh => ?_) (o17 _ _ I Lg rr n hV)⟩
      obtain ⟨x, rfl, I1, Lg1, rr1, rfl, e, hm⟩ := hh
      refine ⟨x, rfl, am_go (am_AC_mono 100) lw_cuts 400 (b_L_law_707 ?_)⟩
      rw [e]
      refine ⟨hb 1 (by decide), hb 2 (by decide), am_AC_post (fun v M hh => ?_) hm⟩
      obtain ⟨y, rfl, I2, Lg2, rr2, rfl, rfl, hV2⟩ := hh
      exact ⟨y, rfl, am_go (am_AC_mono 100) lw_cuts 400 (b_L_law_721 ⟨fun _ => nx I2 Lg2 rr2 hV2, fun q2 => absurd rfl q2⟩)⟩
    refine ⟨fun _ => ?_, fun _ => ?_⟩
    · refine ⟨hb 1 (by decide), am_AC_post (fun v M hh => ?_) (o18 _ I Lg rr n hV)⟩
      obtain ⟨x, rfl, I1, Lg1, rr1, rfl, e, hm⟩ := hh
      refine ⟨x, rfl, am_go (am_AC_mono 100) lw_cuts 400 (b_L_law_735 ?_)⟩
      rw [e]
      refine ⟨hb 1 (by decide), am_AC_post (fun v M hh => ?_) hm⟩
      obtain ⟨y, rfl, I2, Lg2, rr2, rfl, rfl, hV2⟩ := hh
      exact ⟨y, rfl, am_go (am_AC_mono 100) lw_cuts 400 (b_L_law_744 ⟨fun _ => nx I2 Lg2 rr2 hV2, fun q2 => absurd rfl q2⟩)⟩
    refine ⟨fun _ => ?_, fun _ => ?_⟩
    · refine ⟨hb 1 (by decide), am_AC_post (fun v M hh => ?_) (o19 _ I Lg rr n hV)⟩
      obtain ⟨x, rfl, I1, Lg1, rr1, rfl, e, hm⟩ := hh
      refine ⟨x, rfl, am_go (am_AC_mono 100) lw_cuts 400 (b_L_law_758 ?_)⟩
      rw [e]
      refine ⟨hb 1 (by decide), am_AC_post (fun v M hh => ?_) hm⟩
      obtain ⟨y, rfl, I2, Lg2, rr2, rfl, rfl, hV2⟩ := hh
      exact ⟨y, rfl, am_go (am_AC_mono 100) lw_cuts 400 (b_L_law_767 ⟨fun _ => nx I2 Lg2 rr2 hV2, fun q2 => absurd rfl q2⟩)⟩
    refine ⟨fun _ => ?_, fun _ => ?_⟩
    · refine am_AC_post (fun v M hh => ?_) (o20 I Lg rr n hV)
      obtain ⟨x, rfl, I1, Lg1, rr1, rfl, e, hm⟩ := hh
      refine ⟨x, rfl, am_go (am_AC_mono 100) lw_cuts 400 (b_L_law_776 ?_)⟩
      refine am_AC_post (fun v M hh => ?_) hm
      obtain ⟨y, rfl, I2, Lg2, rr2, rfl, rfl, hV2⟩ := hh
      exact ⟨y, rfl, am_go (am_AC_mono 100) lw_cuts 400 (b_L_law_780 ⟨fun _ => nx I2 Lg2 rr2 hV2, fun q2 => absurd rfl q2⟩)⟩
    refine ⟨fun _ => ?_, fun _ => ?_⟩
    · refine ⟨hb 1 (by decide), am_AC_post (fun v M hh => ?_) (o21 _ I Lg rr n hV)⟩
      obtain ⟨x, rfl, I1, Lg1, rr1, rfl, e, hm⟩ := hh
      refine ⟨x, rfl, am_go (am_AC_mono 100) lw_cuts 400 (b_L_law_794 ?_)⟩
      rw [e]
      refine ⟨hb 1 (by decide), am_AC_post (fun v M hh => ?_) hm⟩
      obtain ⟨y, rfl, I2, Lg2, rr2, rfl, rfl, hV2⟩ := hh
      exact ⟨y, rfl, am_go (am_AC_mono 100) lw_cuts 400 (b_L_law_803 ⟨fun _ => nx I2 Lg2 rr2 hV2, fun q2 => absurd rfl q2⟩)⟩
    refine ⟨fun _ => ?_, fun _ => ?_⟩
    · refine ⟨hb 1 (by decide), am_AC_post (fun v M hh => ?_) (o22 _ I Lg rr n hV)⟩
      obtain ⟨x, rfl, I1, Lg1, rr1, rfl, e, hm⟩ := hh
      refine ⟨x, rfl, am_go (am_AC_mono 100) lw_cuts 400 (b_L_law_817 ?_)⟩
      rw [e]
      refine ⟨hb 1 (by decide), am_AC_post (fun v M hh => ?_) hm⟩
      obtain ⟨y, rfl, I2, Lg2, rr2, rfl, rfl, hV2⟩ := hh
      exact ⟨y, rfl, am_go (am_AC_mono 100) lw_cuts 400 (b_L_law_826 ⟨fun _ => nx I2 Lg2 rr2 hV2, fun q2 => absurd rfl q2⟩)⟩
    refine ⟨fun _ => ?_, fun _ => ?_⟩
    · refine am_AC_post (fun v M hh => ?_) (o23 I Lg rr n hV)
      obtain ⟨x, rfl, I1, Lg1, rr1, rfl, e, hm⟩ := hh
      refine ⟨x, rfl, am_go (am_AC_mono 100) lw_cuts 400 (b_L_law_835 ?_)⟩
      refine am_AC_post (fun v M hh => ?_) hm
      obtain ⟨y, rfl, I2, Lg2, rr2, rfl, rfl, hV2⟩ := hh
      exact ⟨y, rfl, am_go (am_AC_mono 100) lw_cuts 400 (b_L_law_839 ⟨fun _ => nx I2 Lg2 rr2 hV2, fun q2 => absurd rfl q2⟩)⟩
    refine ⟨fun _ => ?_, fun _ => ?_⟩
    · refine am_AC_post (fun v M hh => ?_) (o24 I Lg rr n hV)
      obtain ⟨x, rfl, I1, Lg1, rr1, rfl, e, hm⟩ := hh
      refine ⟨x, rfl, am_go (am_AC_mono 100) lw_cuts 400 (b_L_law_848 ?_)⟩
      refine am_AC_post (fun v M hh => ?_) hm
      obtain ⟨y, rfl, I2, Lg2, rr2, rfl, rfl, hV2⟩ := hh
      exact ⟨y, rfl, am_go (am_AC_mono 100) lw_cuts 400 (b_L_law_852 ⟨fun _ => nx I2 Lg2 rr2 hV2, fun q2 => absurd rfl q2⟩)⟩
    refine ⟨fun _ => ?_, fun _ => ?_⟩
    · refine ⟨hb 1 (by decide), hb 2 (by decide), hb 3 (by decide), hb 4 (by decide), hb 5 (by decide), am_AC_post (fun v M hh => ?_) (o25 _ _ _ _ _ I Lg rr n hV)⟩
      obtain ⟨x, rfl, I1, Lg1, rr1, rfl, e, hm⟩ := hh
      refine ⟨x, rfl, am_go (am_AC_mono 100) lw_cuts 400 (b_L_law_886 ?_)⟩
      rw [e]
      refine ⟨hb 1 (by decide), hb 2 (by decide), hb 3 (by decide), hb 4 (by decide), hb 5 (by decide), am_AC_post (fun v M hh => ?_) hm⟩
      obtain ⟨y, rfl, I2, Lg2, rr2, rfl, rfl, hV2⟩ := hh
      exact ⟨y, rfl, am_go (am_AC_mono 100) lw_cuts 400 (b_L_law_915 ⟨fun _ => nx I2 Lg2 rr2 hV2, fun q2 => absurd rfl q2⟩)⟩
    refine ⟨fun _ => ?_, fun _ => ?_⟩
    · refine ⟨hb 1 (by decide), hb 2 (by decide), hb 3 (by decide), hb 4 (by decide), am_AC_post (fun v M hh => ?_) (o26 _ _ _ _ I Lg rr n hV)⟩
      obtain ⟨x, rfl, I1, Lg1, rr1, rfl, e, hm⟩ := hh
      refine ⟨x, rfl, am_go (am_AC_mono 100) lw_cuts 400 (b_L_law_944 ?_)⟩
      rw [e]
      refine ⟨hb 1 (by decide), hb 2 (by decide), hb 3 (by decide), hb 4 (by decide), am_AC_post (fun v M hh => ?_) hm⟩
      obtain ⟨y, rfl, I2, Lg2, rr2, rfl, rfl, hV2⟩ := hh
      exact ⟨y, rfl, am_go (am_AC_mono 100) lw_cuts 400 (b_L_law_968 ⟨fun _ => nx I2 Lg2 rr2 hV2, fun q2 => absurd rfl q2⟩)⟩
    refine ⟨fun _ => ?_, fun _ => ?_⟩
    · refine ⟨hb 1 (by decide), hb 2 (by decide), hb 3 (by decide), am_AC_post (fun v M hh => ?_) (o27 _ _ _ I Lg rr n hV)⟩
      obtain ⟨x, rfl, I1, Lg1, rr1, rfl, e, hm⟩ := hh
      refine ⟨x, rfl, am_go (am_AC_mono 100) lw_cuts 400 (b_L_law_992 ?_)⟩
      rw [e]
      refine ⟨hb 1 (by decide), hb 2 (by decide), hb 3 (by decide), am_AC_post (fun v M hh => ?_) hm⟩
      obtain ⟨y, rfl, I2, Lg2, rr2, rfl, rfl, hV2⟩ := hh
      exact ⟨y, rfl, am_go (am_AC_mono 100) lw_cuts 400 (b_L_law_1011 ⟨fun _ => nx I2 Lg2 rr2 hV2, fun q2 => absurd rfl q2⟩)⟩
    refine ⟨fun _ => ?_, fun _ => ?_⟩
    · refine ⟨hb 1 (by decide), am_AC_post (fun v M hh => ?_) (o28 _ I Lg rr n hV)⟩
      obtain ⟨x, rfl, I1, Lg1, rr1, rfl, e, hm⟩ := hh
      refine ⟨x, rfl, am_go (am_AC_mono 100) lw_cuts 400 (b_L_law_1025 ?_)⟩
      rw [e]
      refine ⟨hb 1 (by decide), am_AC_post (fun v M hh => ?_) hm⟩
      obtain ⟨y, rfl, I2, Lg2, rr2, rfl, rfl, hV2⟩ := hh
      exact ⟨y, rfl, am_go (am_AC_mono 100) lw_cuts 400 (b_L_law_1034 ⟨fun _ => nx I2 Lg2 rr2 hV2, fun q2 => absurd rfl q2⟩)⟩
    refine ⟨fun _ => ?_, fun _ => ?_⟩
    · refine ⟨hb 1 (by decide), hb 2 (by decide), hb 3 (by decide), hb 4 (by decide), hb 5 (by decide), am_AC_post (fun v M hh => ?_) (o29 _ _ _ _ I Lg rr n hV)⟩
      obtain ⟨x, rfl, I1, Lg1, rr1, rfl, e, hm⟩ := hh
      refine ⟨x, rfl, am_go (am_AC_mono 100) lw_cuts 400 (b_L_law_1078 ?_)⟩
      rw [e]
      refine ⟨hb 1 (by decide), hb 2 (by decide), hb 3 (by decide), hb 4 (by decide), hb 5 (by decide), am_AC_post (fun v M hh => ?_) hm⟩
      obtain ⟨y, rfl, I2, Lg2, rr2, rfl, rfl, hV2⟩ := hh
      exact ⟨y, rfl, am_go (am_AC_mono 100) lw_cuts 400 (b_L_law_1117 ⟨fun _ => nx I2 Lg2 rr2 hV2, fun q2 => absurd rfl q2⟩)⟩
    refine ⟨fun _ => ?_, fun _ => ?_⟩
    · refine ⟨hb 1 (by decide), hb 2 (by decide), hb 3 (by decide), hb 4 (by decide), hb 5 (by decide), am_AC_post (fun v M hh => ?_) (o30 _ _ _ _ _ I Lg rr n hV)⟩
      obtain ⟨x, rfl, I1, Lg1, rr1, rfl, e, hm⟩ := hh
      refine ⟨x, rfl, am_go (am_AC_mono 100) lw_cuts 400 (b_L_law_1151 ?_)⟩
      rw [e]
      refine ⟨hb 1 (by decide), hb 2 (by decide), hb 3 (by decide), hb 4 (by decide), hb 5 (by decide), am_AC_post (fun v M hh => ?_) hm⟩
      obtain ⟨y, rfl, I2, Lg2, rr2, rfl, rfl, hV2⟩ := hh
      exact ⟨y, rfl, am_go (am_AC_mono 100) lw_cuts 400 (b_L_law_1180 ⟨fun _ => nx I2 Lg2 rr2 hV2, fun q2 => absurd rfl q2⟩)⟩
    exact nx I Lg rr hV
