/-! sumFor -/
theorem rs_xsf (post : Int32 → Prop) (F b : Nat) (hF : F < 262144) (hb : b < 3) (x3 e t : Int32) (c w l g gc gs f : Nat → Int32) (P : Nat → Bool)
    (hP : ∀ s, P s = (decide (nI (rs_g b s) = x3) && rs_Q c F s)) (f1 : ∀ s, P s = true → f s = w s) (f0 : ∀ s, P s = false → f s = 0)
    (h0 : rs_any P 256 = false → post (-1000000)) (h1 : rs_any P 256 = true → post (rs_S f 256)) :
    ∀ d j : Nat, j + d = 256 → wX_sumFor_26 post (nI F) (nI b) x3 e t c w l g gc gs (d + 1) (rs_b (rs_any P j)) (rs_S f j) (nI j) := by
  intro d
  induction d with
  | zero =>
    intro j hj
    have hj' : j = 256 := by omega
    subst hj'
    refine br_t (Int32.le_refl _) ?_
    cases y : rs_any P 256
    · exact br_t rfl (h0 y)
    · exact br_f rs_n10 (h1 y)
  | succ d ih =>
    intro j hj
    have hj' : j < 256 := by omega
    have hv : vp_in (nI j) 256 := vp_in_nI hj' (by omega)
    have K := ih (j + 1) (by omega)
    rw [rs_any_s, rs_S_s] at K
    have N : P j = false → wX_sumFor_26 post (nI F) (nI b) x3 e t c w l g gc gs (d + 1) (rs_b (rs_any P j)) (rs_S f j) (nI (j + 1)) := by
      intro y
      rw [y, f0 j y, Bool.or_false, Int32.add_zero] at K
      exact K
    refine br_f (nI_ge (b := 256) hj' (by omega)) ?_
    refine rs_go _ j b hj' hb ?_
    refine br_c (fun y => ?_) (fun y => nm_r (nI_1 j) (N (by rw [hP, decide_eq_false y, Bool.false_and])))
    refine rs_hp _ e t c w l g gc gs j F hj' hF (fun k => ?_) (fun k => br_t rfl (nm_r (nI_1 j) (N (by rw [hP, k, Bool.and_false]))))
    have y2 : P j = true := by rw [hP, k, decide_eq_true y]; rfl
    rw [y2, f1 j y2, Bool.or_true] at K
    refine br_f rs_n10 ⟨hv, ?_⟩
    rw [nI_clamp (n := j) (by omega)]
    exact nm_e (nm_r (nI_1 j) K)
theorem rs_ysf (post : Int32 → SY → Prop) (F b : Nat) (hF : F < 262144) (hb3 : b < 3) {n : Nat} {S : Nat → Nat} {h p q a : Nat → Int32} (hn : n ≤ 400) (hE : rs_ev n S h p q a) (hb sb ob : Nat → Int32) (x : Int32)
    (k0 : (∀ v, v < 16 → x = nI v → rs_YM S F b v n = false) → ∀ hb sb : Nat → Int32, post (-1000000) (nI n, h, p, q, a, hb, sb, ob))
    (k1 : ∀ v, v < 16 → x = nI v → rs_YM S F b v n = true → ∀ hb sb : Nat → Int32, post (rs_YC S a F b v n) (nI n, h, p, q, a, hb, sb, ob)) :
    wpY_sumFor post (nI n, h, p, q, a, hb, sb, ob) (nI F) (nI b) x := by
  unfold wpY_sumFor
  refine rs_yf1 _ hF _ (br_f rs_n10 ?_)
  refine pk_lt b 0 (fun y => by omega) (fun _ => pk_lt 2 b (fun y => by omega) (fun _ => ?_))
  refine br_c (fun y => ?_) (fun y => br_c (fun y2 => ?_) (fun y2 => ?_))
  · refine k0 (fun v hv e => ?_) hb sb
    rw [e] at y
    exact absurd y (nI_pos (by omega))
  · obtain ⟨v, hv, rfl⟩ := nI_of2 (n := 15) (by decide +kernel) y y2
    refine rs_ygat _ F b hF hb3 hn hE hb sb ob (fun hb' sb' I => ?_)
    have hw : vp_in (nI v) 16 := vp_in_nI (by omega) (by omega)
    dsimp only
    rw [nI_clamp (n := v) (by omega), (I v (by omega)).1, (I v (by omega)).2]
    refine ⟨hw, ?_⟩
    cases r : rs_YM S F b v n
    · refine br_t rfl (k0 (fun v' hv' e => ?_) hb' sb')
      have e' : v = v' := (nI_eq (by omega) (by omega)).mp e
      rw [← e']
      exact r
    · exact br_f rs_n10 ⟨hw, k1 v (by omega) rfl r hb' sb'⟩
  · refine k0 (fun v hv e => ?_) hb sb
    rw [e] at y2
    exact absurd (nI_le (b := 15) (by omega) (by omega)) y2
theorem i_vc_sumFor {k : Nat} {u : SX} {v : SY} (I : i_Rel k u v) (hk : k + 5 ≤ 2560) (v1 : Int32) (v2 : Int32) (v3 : Int32) : wpX_sumFor (fun r => wpY_sumFor (fun r' v' => r' = r ∧ i_Rel (k + 5) u v') v v1 v2 v3) u v1 v2 v3 := by
  obtain ⟨e, t, c, w, l, g, gc, gs⟩ := u
  obtain ⟨z, h, p, q, a, hb, sb, ob⟩ := v
  have J : rs_R e t c w l g z h p q a := I
  obtain ⟨n, S, hn, e1, e2, ht, hE, hS⟩ := id J
  subst e1 e2
  unfold wpX_sumFor
  dsimp only
  rcases rs_ff v1 with ⟨F, hF, rfl⟩ | hf
  · refine rs_xf1 _ hF (br_f rs_n10 ?_)
    rcases rs_bb v2 with ⟨b, hb3, rfl⟩ | hbb
    · refine rs_xg1 _ hb3 (br_f rs_n10 ⟨256 + 1, ?_⟩)
      have hA : ∀ x, x < 16 → v3 = nI x → rs_any (fun s => decide (nI (rs_g b s) = v3) && rs_Q c F s) 256 = rs_YM S F b x n ∧ rs_S (fun s => if (decide (nI (rs_g b s) = v3) && rs_Q c F s) = true then w s else 0) 256 = rs_YC S a F b x n := by
        intro x hx ex
        subst ex
        have hR : ∀ s, s < 256 → (decide (nI (rs_g b s) = nI x) && rs_Q c F s) = (decide (¬ c s ≤ 0) && rs_pg F b x s) := by
          intro s hs
          have hg : rs_g b s < 16 := rs_g_lt hs
          rw [← rs_Qg_r]
          unfold rs_Qg
          rw [Bool.and_comm, decide_eq_decide.mpr (nI_eq (by omega) (by omega))]
        exact ⟨rs_any_ex hn hE hS (rs_pg F b x) _ hR, rs_ex hn hE hS (fun x => x) w (rs_Vw hS) (rs_pg F b x) _ hR⟩
      have hB : rs_any (fun s => decide (nI (rs_g b s) = v3) && rs_Q c F s) 256 = true → ∃ x, x < 16 ∧ v3 = nI x := by
        intro y
        obtain ⟨s, hs, y⟩ := (rs_any_iff _ _).mp y
        rw [Bool.and_eq_true, decide_eq_true_iff] at y
        exact ⟨rs_g b s, rs_g_lt hs, y.1.symm⟩
      refine rs_xsf _ F b hF hb3 v3 (nI n) t c w l g gc gs (fun s => if (decide (nI (rs_g b s) = v3) && rs_Q c F s) = true then w s else 0) (fun s => decide (nI (rs_g b s) = v3) && rs_Q c F s) (fun s => rfl) (fun s y => rs_f_t y) (fun s y => rs_f_f y) (fun y => ?_) (fun y => ?_) 256 0 rfl
      · refine rs_ysf _ F b hF hb3 hn hE hb sb ob v3 (fun _ hb' sb' => ⟨rfl, J⟩) (fun x hx ex r => ?_)
        rw [(hA x hx ex).1, r] at y
        exact absurd y.symm Bool.false_ne_true
      · refine rs_ysf _ F b hF hb3 hn hE hb sb ob v3 (fun r => ?_) (fun x hx ex r hb' sb' => ⟨((hA x hx ex).2).symm, J⟩)
        obtain ⟨x, hx, ex⟩ := hB y
        rw [(hA x hx ex).1, r x hx ex] at y
        exact absurd y Bool.false_ne_true
    · refine rs_xg0 _ hbb (br_t rfl ?_)
      unfold wpY_sumFor
      refine rs_yf1 _ hF _ (br_f rs_n10 ?_)
      rcases hbb with y | y
      · exact br_t y ⟨rfl, J⟩
      · exact br_c (fun _ => ⟨rfl, J⟩) (fun _ => br_t y ⟨rfl, J⟩)
  · refine rs_xf0 _ hf (br_t rfl ?_)
    unfold wpY_sumFor
    exact rs_yf0 _ hf _ (br_t rfl ⟨rfl, J⟩)
