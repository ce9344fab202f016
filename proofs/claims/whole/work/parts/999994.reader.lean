/-! THE CLASS'S READER -/
theorem tx_t : ∀ k, k < 10 → sh_t (2 + k) = 6 ∧ sh_n (2 + k) ≤ 5 ∧ 0 < sh_n (2 + k) ∧ ∀ j, j < 5 → sh_c (2 + k) j < 128 := by decide +kernel
theorem ps_nb {I J : Nat → Nat → Int32} {p a : Nat} (h : nb1 (ps I p) J a) (ha : ¬ a = 1438) : J = ps (am_sr I a (J a)) p := by
  rw [← ps_sr _ _ _ ha]
  funext c
  by_cases e : c = a
  · rw [e, am_sr_at]
  · rw [am_sr_off _ _ e, h c e]
theorem sr_nb (I : Nat → Nat → Int32) (a : Nat) (g : Nat → Int32) : nb1 I (am_sr I a g) a := fun _ hc => am_sr_off _ _ hc
def tA (cur : Nat → Nat → Nat) (I : Nat → Nat → Int32) (tl : Nat) (t : Nat → Nat) : Prop := tT I tl t ∧ ∀ k, k < 5 → ip I (1339 + k) (cur k) ∧ ip I (14 + k) (cur (5 + k))
def tB (I I' : Nat → Nat → Int32) : Prop := ∀ c, ¬ (1441 ≤ c ∧ c ≤ 1456) → I' c = I c
theorem tA.fr {cur : Nat → Nat → Nat} {I I' : Nat → Nat → Int32} {tl : Nat} {t : Nat → Nat} (h : tA cur I tl t) (hB : tB I I') : tA cur I' tl t := ⟨⟨h.1.1, by rw [hB 1438 (by decide)]; exact h.1.2.1, fun k hk => by rw [hB 1439 (by decide)]; exact h.1.2.2 k hk⟩, fun k hk => ⟨fun p hp => by rw [hB _ (by omega)]; exact (h.2 k hk).1 p hp, fun p hp => by rw [hB _ (by omega)]; exact (h.2 k hk).2 p hp⟩⟩
section RD
variable {d : Nat} {K : Option Value → am_M → Prop} {I : Nat → Nat → Int32} {Lg : Nat → Nat → Int64} {rr : Nat → Nat → Option Nat} {n : Nat} {tl : Nat} {t : Nat → Nat} {cur : Nat → Nat → Nat}
theorem s_isWritten {k p e : Nat} (hd : 1 ≤ d) (hT : tT I tl t) (hk : k < 10) (hp : p ≤ e) (he : e ≤ tl) (h1 : nm_is tl t k p e → K (some (.int (nI 1))) (am_st (ps I p) Lg rr n)) (h0 : ¬ nm_is tl t k p e → K (some (.int (nI 0))) (am_st (ps I p) Lg rr n)) : am_AC d k_Ta_isWritten [.ref 1438, .ref (2 + k), .int (nI e)] (am_st (ps I p) Lg rr n) K := by
  obtain ⟨d, rfl, hd1⟩ := s_up hd
  have tl100 := hT.1
  obtain ⟨k1, k2, k3, k4⟩ := tx_t k hk
  have g : (am_oS (2 + k) 6 && true) = true := am_ba (oS_of k1 (by omega)) rfl
  refine am_in _ _ _ (am_step _ _ _ (b_Ta_isWritten_0 (am_gi g ?_)))
  rw [ps_7, pk_sub hp]
  refine ⟨fun c => ?_, fun c => h0 fun q => c (by rw [q.1, show p + sh_n (2 + k) - p = sh_n (2 + k) by omega])⟩
  rw [nI_eq (by omega) (by omega)] at c
  have key : ∀ j, j ≤ sh_n (2 + k) → (∀ i, i < j → x_L tl t (p + i) = sh_c (2 + k) i) → am_St d k_Ta_isWritten (am_st (ps I p) Lg rr n) K 17 [some (.ref 1438), some (.ref (2 + k)), some (.int (nI e)), some (.int (nI j))] [] (am_st (ps I p) Lg rr n) := by
    refine lp_up _ (fun j hj ih => ?_) ?_
    · intro hi
      have xl := hT.L (p + j)
      have cl := k4 j (by omega)
      refine am_step _ _ _ (b_Ta_isWritten_17 (am_gi g ?_))
      rw [ps_7, ps_j _ _ (by decide), hT.2.1, nI_add, n_un (show p + j < 2 ^ 32 by omega), n_un (show j < 2 ^ 32 by omega), ps_off _ _ (by decide), hT.at (show p + j < tl by omega), nI_add]
      refine ⟨fun _ => ⟨fun _ => ⟨by omega, am_gi g ⟨hj, fun q => ih fun i hi2 => ?_, fun q => h0 fun q2 => q (by rw [q2.2 j hj])⟩⟩, fun q => absurd (nI_lt (show p + j < tl by omega) (by omega)) q⟩, fun q => absurd (nI_lt hj (by omega)) q⟩
      rw [nI_eq (by omega) (by omega)] at q
      by_cases c2 : i = j
      · rw [c2]
        exact q
      · exact hi i (by omega)
    · intro hi
      refine am_step _ _ _ (b_Ta_isWritten_17 (am_gi g ⟨fun q => absurd q (nI_nlt (Nat.le_refl _) (by omega)), fun _ => h1 ⟨by omega, hi⟩⟩))
  exact key 0 (Nat.zero_le _) fun i hi => absurd hi (Nat.not_lt_zero i)
theorem s_nameOf {k : Nat} {M : am_M} (hd : 1 ≤ d) (hk : k < 10) (h : K (some (.ref (2 + k))) (am_st I Lg rr n)) : am_AC d k_Ta_nameOf [.int (nI k)] (am_st I Lg rr n) K := by
  obtain ⟨d, rfl, hd1⟩ := s_up hd
  refine am_in _ _ _ (am_step _ _ _ (b_Ta_nameOf_0 ?_))
  have e : k = 0 ∨ k = 1 ∨ k = 2 ∨ k = 3 ∨ k = 4 ∨ k = 5 ∨ k = 6 ∨ k = 7 ∨ k = 8 ∨ k = 9 := by omega
  rcases e with rfl | rfl | rfl | rfl | rfl | rfl | rfl | rfl | rfl | rfl
  · exact ⟨fun _ => h, fun q => absurd rfl q⟩
  · exact ⟨fun q => absurd q (by decide), fun _ => ⟨fun _ => h, fun q => absurd rfl q⟩⟩
  · exact ⟨fun q => absurd q (by decide), fun _ => ⟨fun q => absurd q (by decide), fun _ => ⟨fun _ => h, fun q => absurd rfl q⟩⟩⟩
  · exact ⟨fun q => absurd q (by decide), fun _ => ⟨fun q => absurd q (by decide), fun _ => ⟨fun q => absurd q (by decide), fun _ => ⟨fun _ => h, fun q => absurd rfl q⟩⟩⟩⟩
  · exact ⟨fun q => absurd q (by decide), fun _ => ⟨fun q => absurd q (by decide), fun _ => ⟨fun q => absurd q (by decide), fun _ => ⟨fun q => absurd q (by decide), fun _ => ⟨fun _ => h, fun q => absurd rfl q⟩⟩⟩⟩⟩
  · exact ⟨fun q => absurd q (by decide), fun _ => ⟨fun q => absurd q (by decide), fun _ => ⟨fun q => absurd q (by decide), fun _ => ⟨fun q => absurd q (by decide), fun _ => ⟨fun q => absurd q (by decide), fun _ => ⟨fun _ => h, fun q => absurd rfl q⟩⟩⟩⟩⟩⟩
  · exact ⟨fun q => absurd q (by decide), fun _ => ⟨fun q => absurd q (by decide), fun _ => ⟨fun q => absurd q (by decide), fun _ => ⟨fun q => absurd q (by decide), fun _ => ⟨fun q => absurd q (by decide), fun _ => ⟨fun q => absurd q (by decide), fun _ => ⟨fun _ => h, fun q => absurd rfl q⟩⟩⟩⟩⟩⟩⟩
  · exact ⟨fun q => absurd q (by decide), fun _ => ⟨fun q => absurd q (by decide), fun _ => ⟨fun q => absurd q (by decide), fun _ => ⟨fun q => absurd q (by decide), fun _ => ⟨fun q => absurd q (by decide), fun _ => ⟨fun q => absurd q (by decide), fun _ => ⟨fun q => absurd q (by decide), fun _ => ⟨fun _ => h, fun q => absurd rfl q⟩⟩⟩⟩⟩⟩⟩⟩
  · exact ⟨fun q => absurd q (by decide), fun _ => ⟨fun q => absurd q (by decide), fun _ => ⟨fun q => absurd q (by decide), fun _ => ⟨fun q => absurd q (by decide), fun _ => ⟨fun q => absurd q (by decide), fun _ => ⟨fun q => absurd q (by decide), fun _ => ⟨fun q => absurd q (by decide), fun _ => ⟨fun q => absurd q (by decide), fun _ => ⟨fun _ => h, fun q => absurd rfl q⟩⟩⟩⟩⟩⟩⟩⟩⟩
  · exact ⟨fun q => absurd q (by decide), fun _ => ⟨fun q => absurd q (by decide), fun _ => ⟨fun q => absurd q (by decide), fun _ => ⟨fun q => absurd q (by decide), fun _ => ⟨fun q => absurd q (by decide), fun _ => ⟨fun q => absurd q (by decide), fun _ => ⟨fun q => absurd q (by decide), fun _ => ⟨fun q => absurd q (by decide), fun _ => ⟨fun q => absurd q (by decide), fun _ => h⟩⟩⟩⟩⟩⟩⟩⟩⟩
theorem s_nameUpTo {p e : Nat} (hd : 2 ≤ d) (hT : tT I tl t) (hp : p ≤ e) (he : e ≤ tl) (h1 : ∀ k, k < 10 → nm_is tl t k p e → K (some (.int (nI k))) (am_st (ps I p) Lg rr n)) (h0 : (∀ k, k < 10 → ¬ nm_is tl t k p e) → K (some (.int (am_k (-4)))) (am_st (ps I p) Lg rr n)) : am_AC d k_Ta_nameUpTo [.ref 1438, .int (nI e)] (am_st (ps I p) Lg rr n) K := by
  obtain ⟨d, rfl, hd1⟩ := s_up hd
  have key : ∀ k, k ≤ 10 → (∀ i, i < k → ¬ nm_is tl t i p e) → am_St d k_Ta_nameUpTo (am_st (ps I p) Lg rr n) K 2 [some (.ref 1438), some (.int (nI e)), some (.int (nI k))] [] (am_st (ps I p) Lg rr n) := by
    refine lp_up _ (fun k hk ih => ?_) ?_
    · intro hi
      refine am_step _ _ _ (b_Ta_nameUpTo_2 ⟨fun _ => s_nameOf (M := am_st I Lg rr n) (by omega) hk ⟨_, rfl, am_step _ _ _ (b_Ta_nameUpTo_13 (s_isWritten (by omega) hT hk hp he (fun q => ⟨_, rfl, am_step _ _ _ (b_Ta_nameUpTo_17 ⟨fun c => absurd c (by decide), fun _ => h1 k hk q⟩)⟩) fun q => ⟨_, rfl, am_step _ _ _ (b_Ta_nameUpTo_17 ⟨fun _ => ?_, fun c => absurd rfl c⟩)⟩))⟩, fun c => absurd (nI_lt hk (by decide)) c⟩)
      rw [nI_add]
      refine ih fun i hi2 => ?_
      by_cases c : i = k
      · rw [c]
        exact q
      · exact hi i (by omega)
    · intro hi
      exact am_step _ _ _ (b_Ta_nameUpTo_2 ⟨fun c => absurd c (by decide), fun _ => h0 hi⟩)
  exact am_in _ _ _ (am_step _ _ _ (b_Ta_nameUpTo_0 (key 0 (by decide) fun i hi => absurd hi (Nat.not_lt_zero i))))
theorem s_isName {p a : Nat} (hd : 3 ≤ d) (hA : tA cur I tl t) (hrr : rr 1438 5 = some 1338) (hp : p ≤ tl) (ha : am_ro 1497 a 24) (ha2 : 1441 ≤ a) (h1 : ∀ r f, x_nm tl t cur (g_sk tl t p) = (r, some f) → ∀ I', nb1 I I' a → ip I' a f → K (some (.int (nI 1))) (am_st (ps I' r) Lg rr n)) (h0 : ∀ r, x_nm tl t cur (g_sk tl t p) = (r, none) → K (some (.int (nI 0))) (am_st (ps I r) Lg rr n)) : am_AC d k_Ta_isName [.ref 1438, .ref a] (am_st (ps I p) Lg rr n) K := by
  obtain ⟨d, rfl, hd1⟩ := s_up hd
  have hT := hA.1
  have tl100 := hT.1
  have sl := sk_le (t := t) p hp
  have el := rn_le (t := t) (lo := 97) (hi := 122) (by decide) _ sl
  have eg := rn_ge (tl := tl) (t := t) (lo := 97) (hi := 122) (by decide) (g_sk tl t p)
  refine am_in _ _ _ (am_step _ _ _ (b_Ta_isName_0 (s_endOfRun (by omega) hT hp (by decide) (by decide) (by decide) ⟨_, rfl, am_step _ _ _ (b_Ta_isName_8 (s_nameUpTo (by omega) hT eg el (fun k hk hn => ⟨_, rfl, am_step _ _ _ (b_Ta_isName_14 ⟨fun c => ?_, fun _ => ⟨fun c => ?_, fun c => ?_⟩⟩)⟩) fun hn => ⟨_, rfl, am_step _ _ _ (b_Ta_isName_14 ⟨fun _ => h0 _ (nm_no hn), fun c => absurd rfl c⟩)⟩))⟩)))
  · exact absurd (show nI k < 0 by rw [c]; decide) (nz_lt k (by omega))
  · have k5 : k < 5 := Nat.lt_of_not_le fun q => absurd c (nI_nlt q (by omega))
    refine am_obi hrr (am_gi rfl ?_)
    rw [n_un (show k < 2 ^ 32 by omega)]
    refine ⟨k5, am_obi (RR_now rr k k5) (c_assign (by omega) ha (ro_now k5) (f := cur k) (fun x hx => by rw [ps_off _ _ (by omega)]; exact (hA.2 k k5).1 x hx) fun J hJ hpJ => ⟨rfl, am_step _ _ _ (b_Ta_isName_49 ?_)⟩)⟩
    have eJ := ps_nb hJ (by omega)
    rw [eJ, ps_ps]
    exact h1 _ _ (nm_yes hk hn) _ (sr_nb _ _ _) fun x hx => by rw [am_sr_at]; exact hpJ x hx
  · have k5 : ¬ k < 5 := fun q => c (nI_lt q (by decide))
    rw [pk_sub (by omega), n_un (show k - 5 < 2 ^ 32 by omega)]
    have e5 : 5 + (k - 5) = k := by omega
    refine ⟨by omega, am_obi (RR_13 rr (k - 5) (by omega)) (c_assign (by omega) ha (ta_ro (by omega) (by omega)) (f := cur k) (fun x hx => by rw [ps_off _ _ (by omega)]; have := (hA.2 (k - 5) (by omega)).2 x hx; rw [e5] at this; exact this) fun J hJ hpJ => ⟨rfl, am_step _ _ _ (b_Ta_isName_49 ?_)⟩)⟩
    have eJ := ps_nb hJ (by omega)
    rw [eJ, ps_ps]
    exact h1 _ _ (nm_yes hk hn) _ (sr_nb _ _ _) fun x hx => by rw [am_sr_at]; exact hpJ x hx
theorem s_raise {p a k : Nat} {f g : Nat → Nat} {v : Int32} (hd : 3 ≤ d) (ha : am_ro 1497 a 24) (ha2 : 1441 ≤ a) (ha3 : a < 1456) (hf : ip I a f) (fm : pe_m f) (hk : k ≤ 99) (hv : (v = 0 ∧ g = f) ∨ (¬ v = 0 ∧ g = pe_i f)) (h : ∀ I', (∀ c, ¬ c = a → ¬ c = 1456 → I' c = I c) → ip I' a (x_pw g k) → K none (am_st (ps I' p) Lg rr n)) : am_AC d k_Ta_raise [.ref 1438, .ref a, .int (nI k), .int v] (am_st (ps I p) Lg rr n) K := by
  obtain ⟨d, rfl, hd1⟩ := s_up hd
  have r55 : am_ro 1497 1456 24 := ⟨rfl, rfl, by decide, by decide⟩
  have gm : pe_m g := by
    rcases hv with ⟨_, e⟩ | ⟨_, e⟩
    · rw [e]
      exact fm
    · rw [e]
      exact pe_i_m fm
  generalize hM : am_st (ps I p) Lg rr n = M0
  have lp : ∀ j, j ≤ k → ∀ I', (∀ c, ¬ c = a → ¬ c = 1456 → I' c = I c) → ip I' 1456 g → ip I' a (x_pw g j) → am_St d k_Ta_raise M0 K 30 [some (.ref 1438), some (.ref a), some (.int (nI k)), some (.int v), some (.int (nI j))] [] (am_st (ps I' p) Lg rr n) := by
    refine lp_up _ (fun j hj ih => ?_) ?_
    · intro I' hI hg hp
      refine am_step _ _ _ (b_Ta_raise_30 ⟨fun _ => c_follow (by omega) ha r55 (by omega) (f := x_pw g j) (g := g) (fun x hx => by rw [ps_off _ _ (by omega)]; exact hp x hx) (pw_m gm j).1.1 (fun x hx => by rw [ps_off _ _ (by decide)]; exact hg x hx) fun J hJ hpJ => ⟨rfl, am_step _ _ _ (b_Ta_raise_44 ?_)⟩, fun c => absurd (nI_lt hj (by omega)) c⟩)
      rw [ps_nb hJ (by omega), nI_add]
      exact ih _ (fun c h1 h2 => by rw [am_sr_off _ _ h1, hI c h1 h2]) (fun x hx => by rw [am_sr_off _ _ (by omega)]; exact hg x hx) fun x hx => by rw [am_sr_at]; exact hpJ x hx
    · intro I' hI hg hp
      exact am_step _ _ _ (b_Ta_raise_30 ⟨fun c => absurd c (nI_nlt (Nat.le_refl _) (by omega)), fun _ => h I' hI hp⟩)
  have go : ∀ J, nb1 (ps I p) J 1456 → ip J 1456 g → am_St d k_Ta_raise M0 K 23 [some (.ref 1438), some (.ref a), some (.int (nI k)), some (.int v), none] [] (am_st J Lg rr n) := fun J hJ hg => by
    rw [ps_nb hJ (by decide)]
    refine am_step _ _ _ (b_Ta_raise_23 (c_same (by omega) ha fun J2 hJ2 hp2 => ⟨rfl, am_step _ _ _ (b_Ta_raise_27 ?_)⟩))
    rw [ps_nb hJ2 (by omega)]
    exact lp 0 (Nat.zero_le _) _ (fun c h1 h2 => by rw [am_sr_off _ _ h1, am_sr_off _ _ h2]) (fun x hx => by rw [am_sr_off _ _ (by omega), am_sr_at]; exact hg x hx) fun x hx => by rw [am_sr_at]; exact hp2 x hx
  refine am_in _ _ _ ?_
  rw [← hM] at go ⊢
  have hf2 : ip (ps I p) a f := fun x hx => by rw [ps_off _ _ (by omega)]; exact hf x hx
  refine am_step _ _ _ (b_Ta_raise_0 ⟨fun e => c_assign (by omega) r55 ha hf2 fun J hJ hpJ => ⟨rfl, go J hJ ?_⟩, fun e => c_invert (by omega) ha r55 (by omega) fm hf2 fun J hJ hpJ => ⟨rfl, am_step _ _ _ (b_Ta_raise_12 (go J hJ ?_))⟩⟩)
  · rcases hv with ⟨_, q⟩ | ⟨q, _⟩
    · rw [q]
      exact hpJ
    · exact absurd e q
  · rcases hv with ⟨q, _⟩ | ⟨_, q⟩
    · exact absurd q e
    · rw [q]
      exact hpJ
/-- what a factor at a depth may write -/
def fFr (D : Nat) (I I' : Nat → Nat → Int32) : Prop := ∀ c, ¬ (1442 + D ≤ c ∧ c ≤ 1447) → ¬ (1449 + D ≤ c ∧ c ≤ 1456) → I' c = I c
def pFr (D : Nat) (I I' : Nat → Nat → Int32) : Prop := ∀ c, ¬ (1441 + D ≤ c ∧ c ≤ 1447) → ¬ (1449 + D ≤ c ∧ c ≤ 1456) → I' c = I c
def prOK (Lg : Nat → Nat → Int64) (rr : Nat → Nat → Option Nat) (n tl : Nat) (t : Nat → Nat) (cur : Nat → Nat → Nat) (D : Nat) (B : Nat → x_R) (d : Nat) : Prop := ∀ (K : Option Value → am_M → Prop) (I : Nat → Nat → Int32) (p : Nat), tA cur I tl t → p ≤ tl → (∀ r f, B p = (r, some f) → ∀ I', pFr D I I' → ip I' (1441 + D) f → K (some (.int (nI 1))) (am_st (ps I' r) Lg rr n)) → (∀ r, B p = (r, none) → ∀ I', pFr D I I' → K (some (.int (nI 0))) (am_st (ps I' r) Lg rr n)) → am_AC d k_Ta_isProduct [.ref 1438, .int (nI D)] (am_st (ps I p) Lg rr n) K
theorem prOK_le {D : Nat} {B : Nat → x_R} {d e : Nat} (h : d ≤ e) (q : prOK Lg rr n tl t cur D B d) : prOK Lg rr n tl t cur D B e := fun K I p a b c r => am_AC_le h (q K I p a b c r)
theorem s_plain {M0 : am_M} {p m D : Nat} {B : Nat → x_R} (hd : 5 ≤ d) (hD : D + m = 6) (hB : ¬ m = 0 → prOK Lg rr n tl t cur (D + 1) B (d - 1)) (hBo : ∀ q, q ≤ tl → x_ok tl q (B q)) (hA : tA cur I tl t) (hrr : rr 1438 5 = some 1338) (hp : p ≤ tl) (h1 : ∀ r f, x_pl tl t cur m B p = (r, some f) → ∀ I', fFr D I I' → ip I' (1449 + D) f → am_AC d k_Ta_accept [.ref 1438, .int (nI 94)] (am_st (ps I' r) Lg rr n) (am_qi fun x1 M1 => am_St d k_Ta_isFactor M0 K 75 [some (.ref 1438), some (.int (nI D)), some (.int (nI 1)), none, none] [.int x1] M1)) (h0 : ∀ r, x_pl tl t cur m B p = (r, none) → ∀ I', fFr D I I' → am_R k_Ta_isFactor M0 K (some (.int (nI 0))) (am_st (ps I' r) Lg rr n)) : am_St d k_Ta_isFactor M0 K 0 [some (.ref 1438), some (.int (nI D)), none, none, none] [] (am_st (ps I p) Lg rr n) := by
  obtain ⟨d, rfl, hd1⟩ := s_up hd
  have hB : ¬ m = 0 → prOK Lg rr n tl t cur (D + 1) B d := hB
  have hT := hA.1
  have tl100 := hT.1
  have sl := sk_le (t := t) p hp
  have ra : am_ro 1497 (1449 + D) 24 := ta_ro (by omega) (by omega)
  have fr0 : fFr D I I := fun _ _ _ => rfl
  have nbF : ∀ I', nb1 I I' (1449 + D) → fFr D I I' := fun I' h c _ h2 => h c (by omega)
  have u1 : x_L tl t (g_sk tl t p) = 91 → ¬ m = 0 → ∀ r, B (g_sk tl t p + 1) = (r, none) → x_pl tl t cur m B p = (r, none) := fun e1 e2 r e3 => by
    unfold x_pl
    rw [if_pos e1, if_neg e2, e3]
  have u2 : x_L tl t (g_sk tl t p) = 91 → ¬ m = 0 → ∀ r f, B (g_sk tl t p + 1) = (r, some f) → x_pl tl t cur m B p = if x_L tl t (g_sk tl t r) = 93 then (g_sk tl t r + 1, some f) else (g_sk tl t r, none) := fun e1 e2 r f e3 => by
    unfold x_pl
    rw [if_pos e1, if_neg e2, e3]
  refine am_step _ _ _ (b_Ta_isFactor_0 (s_isNext (by omega) hT hp (by decide) (by decide) (fun e => ⟨_, rfl, am_step _ _ _ (b_Ta_isFactor_6 ⟨fun c => absurd c (by decide), fun _ => ⟨fun c => ?_, fun c => ⟨fun _ => ?_, fun c => absurd rfl c⟩⟩⟩)⟩) fun e => ⟨_, rfl, am_step _ _ _ (b_Ta_isFactor_6 ⟨fun _ => ?_, fun c => absurd rfl c⟩)⟩))
  · have D6 : D < 6 := Nat.lt_of_not_le fun q => absurd c (nI_nlt q (by omega))
    have m0 : ¬ m = 0 := by omega
    have ql := L_lt (tl := tl) (t := t) (p := g_sk tl t p) (by rw [e]; decide)
    have ok := hBo (g_sk tl t p + 1) ql
    refine am_in _ _ _ (am_step _ _ _ (b_Ta_isBracket_0 (s_accept (by omega) hT sl (by decide) (by decide) (fun _ => ⟨_, rfl, am_step _ _ _ (b_Ta_isBracket_6 ⟨fun q => absurd q (by decide), fun _ => ?_⟩)⟩) fun q => absurd (by rw [sk_sk]; exact e) q)))
    rw [sk_sk, nI_add]
    refine hB m0 _ I _ hA ql (fun r f hr I' hI' hf => ⟨_, rfl, am_step _ _ _ (b_Ta_isBracket_16 ⟨fun q => absurd q (by decide), fun _ => ?_⟩)⟩) fun r hr I' hI' => ⟨_, rfl, am_step _ _ _ (b_Ta_isBracket_16 ⟨fun _ => ⟨_, rfl, am_step _ _ _ (b_Ta_isFactor_20 ⟨fun _ => ⟨fun _ => h0 r (u1 e m0 r hr) I' fun c a1 a2 => hI' c (by omega) (by omega), fun q => absurd rfl q⟩, fun q => absurd rfl q⟩)⟩, fun q => absurd rfl q⟩)⟩
    rw [hr] at ok
    have rl : r ≤ tl := ok.2.1
    have hA' := hA.fr (I' := I') fun c a => hI' c (by omega) (by omega)
    have hx := u2 e m0 r f hr
    refine s_accept (by omega) hA'.1 rl (by decide) (by decide) (fun e2 => ⟨_, rfl, am_step _ _ _ (b_Ta_isBracket_25 ⟨fun q => absurd q (by decide), fun _ => ?_⟩)⟩) fun e2 => ⟨_, rfl, am_step _ _ _ (b_Ta_isBracket_25 ⟨fun _ => ⟨_, rfl, am_step _ _ _ (b_Ta_isFactor_20 ⟨fun _ => ⟨fun _ => ?_, fun q => absurd rfl q⟩, fun q => absurd rfl q⟩)⟩, fun q => absurd rfl q⟩)⟩
    · rw [if_pos e2] at hx
      rw [nI_add, n_un (show D < 2 ^ 32 by omega), n_un (show D + 1 < 2 ^ 32 by omega)]
      refine ⟨by omega, am_obi (RR_1447 rr D (by omega)) ⟨by omega, am_obi (RR_1439 rr (D + 1) (by omega)) (c_assign (f := f) (by omega) ra (ta_ro (by omega) (by omega)) (fun x hx2 => by rw [ps_off _ _ (by omega)]; exact hf x hx2) fun J hJ hpJ => ⟨rfl, am_step _ _ _ (b_Ta_isBracket_47 ⟨_, rfl, am_step _ _ _ (b_Ta_isFactor_20 ⟨fun q => absurd q (by decide), fun _ => ⟨fun q => absurd q (by decide), fun _ => ?_⟩⟩)⟩)⟩)⟩⟩
      rw [ps_nb hJ (by omega)]
      exact h1 _ _ hx _ (fun c a1 a2 => by rw [am_sr_off _ _ (by omega), hI' c (by omega) (by omega)]) fun x hx2 => by rw [am_sr_at]; exact hpJ x hx2
    · rw [if_neg e2] at hx
      exact h0 _ hx I' fun c a1 a2 => hI' c (by omega) (by omega)
  · have D6 : ¬ D < 6 := fun q => c (nI_lt q (by decide))
    have m0 : m = 0 := by omega
    refine h0 _ ?_ I fr0
    unfold x_pl
    rw [if_pos e, if_pos m0]
  · refine s_accept (by omega) hT sl (by decide) (by decide) (fun e2 => ⟨_, rfl, am_step _ _ _ (b_Ta_isFactor_38 ⟨fun q => absurd q (by decide), fun _ => ?_⟩)⟩) fun e2 => ⟨_, rfl, am_step _ _ _ (b_Ta_isFactor_38 ⟨fun _ => ?_, fun q => absurd rfl q⟩)⟩
    · rw [sk_sk] at e2
      have ql := L_lt (tl := tl) (t := t) (p := g_sk tl t p) (by rw [e2]; decide)
      have hx : x_pl tl t cur m B p = x_ring tl t (g_sk tl t p + 1) := by
        unfold x_pl
        rw [if_neg e, if_pos e2]
      rw [sk_sk, n_un (show D < 2 ^ 32 by omega)]
      refine ⟨by omega, am_obi (RR_1447 rr D (by omega)) (s_isCycle (by omega) hT ql ra (by omega) (fun r f hr I' hI' hf => ⟨_, rfl, am_step _ _ _ (b_Ta_isFactor_51 (am_step _ _ _ (b_Ta_isFactor_64 ⟨fun q => absurd q (by decide), fun _ => h1 r f (hx.trans hr) I' (nbF I' hI') hf⟩)))⟩) fun r hr I' hI' => ⟨_, rfl, am_step _ _ _ (b_Ta_isFactor_51 (am_step _ _ _ (b_Ta_isFactor_64 ⟨fun _ => h0 r (hx.trans hr) I' (nbF I' hI'), fun q => absurd rfl q⟩)))⟩)⟩
    · rw [sk_sk] at e2
      have hx : x_pl tl t cur m B p = x_nm tl t cur (g_sk tl t p) := by
        unfold x_pl
        rw [if_neg e, if_neg e2]
      rw [sk_sk, n_un (show D < 2 ^ 32 by omega)]
      refine ⟨by omega, am_obi (RR_1447 rr D (by omega)) (s_isName (by omega) hA hrr sl ra (by omega) (fun r f hr I' hI' hf => ⟨_, rfl, am_step _ _ _ (b_Ta_isFactor_64 ⟨fun q => absurd q (by decide), fun _ => h1 r f ?_ I' (nbF I' hI') hf⟩)⟩) fun r hr => ⟨_, rfl, am_step _ _ _ (b_Ta_isFactor_64 ⟨fun _ => h0 r ?_ I fr0, fun q => absurd rfl q⟩)⟩)⟩
      · rw [sk_sk] at hr
        exact hx.trans hr
      · rw [sk_sk] at hr
        exact hx.trans hr
theorem s_factor {p m D : Nat} {B : Nat → x_R} (hd : 7 ≤ d) (hD : D + m = 6) (hB : ¬ m = 0 → prOK Lg rr n tl t cur (D + 1) B (d - 3)) (hBo : ∀ q, q ≤ tl → x_ok tl q (B q)) (hc : ∀ k, k < 10 → pe_m (cur k)) (hA : tA cur I tl t) (hrr : rr 1438 5 = some 1338) (hp : p ≤ tl) (h1 : ∀ r f, x_of tl t (x_pl tl t cur m B p) = (r, some f) → ∀ I', fFr D I I' → ip I' (1449 + D) f → K (some (.int (nI 1))) (am_st (ps I' r) Lg rr n)) (h0 : ∀ r, x_of tl t (x_pl tl t cur m B p) = (r, none) → ∀ I', fFr D I I' → K (some (.int (nI 0))) (am_st (ps I' r) Lg rr n)) : am_AC d k_Ta_isFactor [.ref 1438, .int (nI D)] (am_st (ps I p) Lg rr n) K := by
  obtain ⟨d, rfl, hd1⟩ := s_up hd
  have okp := pl_ok (t := t) (n := m) hc hBo hp
  have ra : am_ro 1497 (1449 + D) 24 := ta_ro (by omega) (by omega)
  refine am_in _ _ _ (s_plain (by omega) hD (fun q => prOK_le (by omega) (hB q)) hBo hA hrr hp (fun r f hr I' hI' hf => ?_) fun r hr I' hI' => h0 r (by rw [hr]; rfl) I' hI')
  rw [hr] at okp h1 h0
  have fm : pe_m f := okp.2.2.1
  have rl : r ≤ tl := okp.2.1
  have hA' := hA.fr (I' := I') fun c a => hI' c (by omega) (by omega)
  have hT' := hA'.1
  have sl := sk_le (t := t) r rl
  have h1 : ∀ r' f', x_of1 tl t f r = (r', some f') → ∀ I', fFr D I I' → ip I' (1449 + D) f' → K (some (.int (nI 1))) (am_st (ps I' r') Lg rr n) := h1
  have h0 : ∀ r', x_of1 tl t f r = (r', none) → ∀ I', fFr D I I' → K (some (.int (nI 0))) (am_st (ps I' r') Lg rr n) := h0
  refine s_accept (by omega) hT' rl (by decide) (by decide) (fun e => ⟨_, rfl, am_step _ _ _ (b_Ta_isFactor_75 ⟨fun q => absurd q (by decide), fun _ => ?_⟩)⟩) fun e => ⟨_, rfl, am_step _ _ _ (b_Ta_isFactor_75 ⟨fun _ => h1 _ f (by unfold x_of1; rw [if_neg e]) I' hI' hf, fun q => absurd rfl q⟩)⟩
  have ql := L_lt (tl := tl) (t := t) (p := g_sk tl t r) (by rw [e]; decide)
  have sl2 := sk_le (t := t) (g_sk tl t r + 1) ql
  -- behind the sign
  have pow : ∀ (v : Int32) (g : Nat → Nat) (q : Nat), q ≤ tl → ((v = 0 ∧ g = f) ∨ (¬ v = 0 ∧ g = pe_i f)) → (n_ok tl t (g_sk tl t q) 99 → x_of1 tl t f r = (gt_rn tl t 48 57 (g_sk tl t q), some (x_pw g (g_nv tl t (g_sk tl t q))))) → (¬ n_ok tl t (g_sk tl t q) 99 → x_of1 tl t f r = (g_sk tl t q, none)) → am_St d k_Ta_isFactor (am_st (ps I p) Lg rr n) K 86 [some (.ref 1438), some (.int (nI D)), some (.int (nI 1)), none, none] [.int v] (am_st (ps I' q) Lg rr n) := fun v g q hq hv y1 y0 => by
    refine am_step _ _ _ (b_Ta_isFactor_86 (s_acceptPower (by omega) hT' hq (fun e3 => ⟨_, rfl, am_step _ _ _ (b_Ta_isFactor_91 ⟨fun c => absurd c (nz_lt _ (by have := e3.2; omega)), fun _ => ?_⟩)⟩) fun e3 => ⟨_, rfl, am_step _ _ _ (b_Ta_isFactor_91 ⟨fun _ => h0 _ (y0 e3) I' hI', fun c => absurd (by decide) c⟩)⟩))
    rw [n_un (show D < 2 ^ 32 by omega)]
    exact ⟨by omega, am_obi (RR_1447 rr D (by omega)) (s_raise (by omega) ra (by omega) (by omega) hf fm e3.2 hv fun I2 hI2 hp2 => ⟨rfl, am_step _ _ _ (b_Ta_isFactor_113 (h1 _ _ (y1 e3) I2 (fun c a1 a2 => by rw [hI2 c (by omega) (by omega), hI' c a1 a2]) hp2))⟩)⟩
  refine s_accept (by omega) hT' ql (by decide) (by decide) (fun e2 => ⟨_, rfl, ?_⟩) fun e2 => ⟨_, rfl, ?_⟩
  · have ql2 := L_lt (tl := tl) (t := t) (p := g_sk tl t (g_sk tl t r + 1)) (by rw [e2]; decide)
    refine pow (nI 1) (pe_i f) _ ql2 (Or.inr ⟨by decide, rfl⟩) (fun e3 => ?_) fun e3 => ?_
    · unfold x_of1
      rw [if_pos e, if_pos e2, dec_t e3]
      rfl
    · unfold x_of1
      rw [if_pos e, if_pos e2, dec_f e3]
      rfl
  · refine pow (nI 0) f _ sl2 (Or.inl ⟨rfl, rfl⟩) (fun e3 => ?_) fun e3 => ?_
    · rw [sk_sk] at e3 ⊢
      unfold x_of1
      rw [if_pos e, if_neg e2, dec_t e3]
      rfl
    · rw [sk_sk] at e3 ⊢
      unfold x_of1
      rw [if_pos e, if_neg e2, dec_f e3]
      rfl
theorem s_product {m D : Nat} {B : Nat → x_R} (hd : 8 ≤ d) (hD : D + m = 6) (hB : ¬ m = 0 → prOK Lg rr n tl t cur (D + 1) B (d - 4)) (hBo : ∀ q, q ≤ tl → x_ok tl q (B q)) (hc : ∀ k, k < 10 → pe_m (cur k)) (hrr : rr 1438 5 = some 1338) : prOK Lg rr n tl t cur D (fun p => x_pr tl t (fun p => x_of tl t (x_pl tl t cur m B p)) 100 pe_1 p) d := by
  intro K I p hA hp h1 h0
  obtain ⟨d, rfl, hd1⟩ := s_up hd
  have rt : am_ro 1497 (1441 + D) 24 := ta_ro (by omega) (by omega)
  have ra : am_ro 1497 (1449 + D) 24 := ta_ro (by omega) (by omega)
  have eD : am_un (nI D) = D := n_un (by omega)
  have key : ∀ k, k ≤ 100 → ∀ q acc I', q ≤ tl → pe_m acc → pFr D I I' → ip I' (1441 + D) acc → x_pr tl t (fun p => x_of tl t (x_pl tl t cur m B p)) (100 - k) acc q = x_pr tl t (fun p => x_of tl t (x_pl tl t cur m B p)) 100 pe_1 p → am_St d k_Ta_isProduct (am_st (ps I p) Lg rr n) K 11 [some (.ref 1438), some (.int (nI D)), some (.int (nI k))] [] (am_st (ps I' q) Lg rr n) := by
    refine lp_up _ (fun k hk ih => ?_) ?_
    · intro q acc I' hq ha hI' hacc hR
      have hA' := hA.fr (I' := I') fun c a => hI' c (by omega) (by omega)
      have okf := of_ok (t := t) (pl_ok (t := t) (n := m) hc hBo hq)
      rw [show 100 - k = (100 - (k + 1)) + 1 by omega] at hR
      refine am_step _ _ _ (b_Ta_isProduct_11 ⟨fun _ => s_factor (by omega) hD (fun q2 => by rw [show d - 3 = d + 1 - 4 by omega]; exact hB q2) hBo hc hA' hrr hq (fun r f hr I2 hI2 hf => ⟨_, rfl, am_step _ _ _ (b_Ta_isProduct_22 ⟨fun c => absurd c (by decide), fun _ => ?_⟩)⟩) fun r hr I2 hI2 => ⟨_, rfl, am_step _ _ _ (b_Ta_isProduct_22 ⟨fun _ => h0 r ?_ I2 fun c a1 a2 => ?_, fun c => absurd rfl c⟩)⟩, fun c => absurd (nI_lt hk (by decide)) c⟩)
      · rw [hr] at okf
        have fm : pe_m f := okf.2.2.1
        have rl : r ≤ tl := okf.2.1
        have hx : (if x_L tl t (g_sk tl t r) = 42 then x_pr tl t (fun p => x_of tl t (x_pl tl t cur m B p)) (100 - (k + 1)) (pe_c f acc) (g_sk tl t r + 1) else (g_sk tl t r, some (pe_c f acc))) = x_pr tl t (fun p => x_of tl t (x_pl tl t cur m B p)) 100 pe_1 p := by
          rw [← hR]
          show _ = (match x_of tl t (x_pl tl t cur m B q) with
            | (r, none) => (r, none)
            | (r, some f) => if x_L tl t (g_sk tl t r) = 42 then x_pr tl t (fun p => x_of tl t (x_pl tl t cur m B p)) (100 - (k + 1)) (pe_c f acc) (g_sk tl t r + 1) else (g_sk tl t r, some (pe_c f acc)))
          rw [hr]
        rw [eD]
        refine ⟨by omega, am_obi (RR_1439 rr D (by omega)) ⟨by omega, am_obi (RR_1447 rr D (by omega)) (c_follow (f := acc) (g := f) (by omega) rt ra (by omega) (fun x hx2 => by rw [ps_off _ _ (by omega), hI2 _ (by omega) (by omega)]; exact hacc x hx2) ha.1.1 (fun x hx2 => by rw [ps_off _ _ (by omega)]; exact hf x hx2) fun J hJ hpJ => ⟨rfl, am_step _ _ _ (b_Ta_isProduct_42 ?_)⟩)⟩⟩
        rw [ps_nb hJ (by omega)]
        have fr2 : pFr D I (am_sr I2 (1441 + D) (J (1441 + D))) := fun c a1 a2 => by rw [am_sr_off _ _ (by omega), hI2 c (by omega) a2, hI' c a1 a2]
        have hp2 : ip (am_sr I2 (1441 + D) (J (1441 + D))) (1441 + D) (pe_c f acc) := fun x hx2 => by rw [am_sr_at]; exact hpJ x hx2
        have hA2 := hA.fr (I' := am_sr I2 (1441 + D) (J (1441 + D))) fun c a => fr2 c (by omega) (by omega)
        refine s_accept (by omega) hA2.1 rl (by decide) (by decide) (fun e => ⟨_, rfl, am_step _ _ _ (b_Ta_isProduct_48 ⟨fun c => absurd c (by decide), fun _ => ?_⟩)⟩) fun e => ⟨_, rfl, am_step _ _ _ (b_Ta_isProduct_48 ⟨fun _ => ?_, fun c => absurd rfl c⟩)⟩
        · rw [if_pos e] at hx
          rw [nI_add]
          exact ih _ _ _ (L_lt (tl := tl) (t := t) (p := g_sk tl t r) (by rw [e]; decide)) (pe_c_m fm ha) fr2 hp2 hx
        · rw [if_neg e] at hx
          exact h1 _ _ hx.symm _ fr2 hp2
      · show x_pr tl t (fun p => x_of tl t (x_pl tl t cur m B p)) 100 pe_1 p = (r, none)
        rw [← hR]
        show (match x_of tl t (x_pl tl t cur m B q) with
            | (r, none) => (r, none)
            | (r, some f) => if x_L tl t (g_sk tl t r) = 42 then x_pr tl t (fun p => x_of tl t (x_pl tl t cur m B p)) (100 - (k + 1)) (pe_c f acc) (g_sk tl t r + 1) else (g_sk tl t r, some (pe_c f acc))) = (r, none)
        rw [hr]
      · rw [hI2 c (by omega) a2, hI' c a1 a2]
    · intro q acc I' hq ha hI' hacc hR
      exact am_step _ _ _ (b_Ta_isProduct_11 ⟨fun c => absurd c (by decide), fun _ => h0 q hR.symm I' hI'⟩)
  refine am_in _ _ _ (am_step _ _ _ (b_Ta_isProduct_0 ?_))
  rw [eD]
  refine ⟨by omega, am_obi (RR_1439 rr D (by omega)) (c_same (by omega) rt fun J hJ hpJ => ⟨rfl, am_step _ _ _ (b_Ta_isProduct_9 ?_)⟩)⟩
  rw [ps_nb hJ (by omega)]
  exact key 0 (by decide) p pe_1 _ hp pe_1_m (fun c a1 a2 => am_sr_off _ _ (by omega)) (fun x hx => by rw [am_sr_at]; exact hpJ x hx) rfl
theorem s_P (hc : ∀ k, k < 10 → pe_m (cur k)) (hrr : rr 1438 5 = some 1338) : ∀ m D, D + m = 6 → ∀ d, 8 + 4 * m ≤ d → prOK Lg rr n tl t cur D (x_P tl t cur m) d
  | 0, D, hD, d, hd => s_product (m := 0) (B := fun p => (p, none)) (by omega) hD (fun q => absurd rfl q) (fun q hq => x_ok_no (Nat.le_refl _) hq) hc hrr
  | m + 1, D, hD, d, hd => s_product (m := m + 1) (B := x_P tl t cur m) (by omega) hD (fun _ => s_P hc hrr m (D + 1) (by omega) (d - 4) (by omega)) (fun q hq => P_ok hc m q hq) hc hrr
/-- what the whole text says -/
noncomputable def x_T (tl : Nat) (t : Nat → Nat) (cur : Nat → Nat → Nat) : x_R := match x_P tl t cur 6 0 with
  | (r, none) => (r, none)
  | (r, some f) => if g_sk tl t r = tl then (tl, some f) else (g_sk tl t r, none)
theorem RR_set (rr : Nat → Nat → Option Nat) (v : Nat) : am_sr (RR rr) 1438 (am_u1 (RR rr 1438) 5 (some v)) = RR (am_sr rr 1438 (am_u1 (rr 1438) 5 (some v))) := by
  funext a j
  by_cases c : a = 1438
  · rw [c, am_sr_at]
    unfold RR
    rw [am_sr_at]
    by_cases c2 : j = 5
    · rw [c2, am_u1_at, am_u1_at]
      rfl
    · rw [am_u1_off _ _ c2, am_u1_off _ _ c2]
  · rw [am_sr_off _ _ c]
    unfold RR
    rw [am_sr_off _ _ c]
theorem s_evaluate (hd : 33 ≤ d) (hc : ∀ k, k < 10 → pe_m (cur k)) (hA : tA cur I tl t) (h1 : ∀ r f, x_T tl t cur = (r, some f) → ∀ I', tB I I' → ip I' 1441 f → K (some (.int (nI 1))) (am_st (ps I' r) Lg (am_sr rr 1438 (am_u1 (rr 1438) 5 (some 1338))) n)) (h0 : ∀ r, x_T tl t cur = (r, none) → ∀ I', tB I I' → K (some (.int (nI 0))) (am_st (ps I' r) Lg (am_sr rr 1438 (am_u1 (rr 1438) 5 (some 1338))) n)) : am_AC d k_Ta_evaluate [.ref 1438, .ref 1338] (am_st I Lg rr n) K := by
  obtain ⟨d, rfl, hd1⟩ := s_up hd
  refine am_in _ _ _ (am_step _ _ _ (b_Ta_evaluate_0 ?_))
  rw [RR_set]
  refine am_step _ _ _ (b_Ta_evaluate_5 ?_)
  refine s_P (cur := cur) hc (by rw [am_sr_at, am_u1_at]) 6 0 rfl d (by omega) _ I 0 hA (Nat.zero_le _) (fun r f hr I' hI' hf => ⟨_, rfl, am_step _ _ _ (b_Ta_evaluate_15 ⟨fun c => absurd c (by decide), fun _ => ?_⟩)⟩) fun r hr I' hI' => ⟨_, rfl, am_step _ _ _ (b_Ta_evaluate_15 ⟨fun _ => h0 r (by unfold x_T; rw [hr]) I' fun c a => hI' c (by omega) (by omega), fun c => absurd rfl c⟩)⟩
  have hB : tB I I' := fun c a => hI' c (by omega) (by omega)
  have hA' := hA.fr hB
  have ok := P_ok (tl := tl) (t := t) hc 6 0 (Nat.zero_le _)
  rw [hr] at ok
  refine s_isAtEnd (by omega) hA'.1 ok.2.1 (fun e => ⟨_, rfl, am_step _ _ _ (b_Ta_evaluate_22 ⟨fun c => absurd c (by decide), fun _ => ?_⟩)⟩) fun e => ⟨_, rfl, am_step _ _ _ (b_Ta_evaluate_22 ⟨fun _ => ?_, fun c => absurd rfl c⟩)⟩
  · rw [e]
    exact h1 _ f (by unfold x_T; rw [hr]; exact if_pos e) I' hB hf
  · exact h0 _ (by unfold x_T; rw [hr]; exact if_neg (by omega)) I' hB
end RD
