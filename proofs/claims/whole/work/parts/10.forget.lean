/-! forget -/
/-- X: the counts of the hour's 16 sorts go to 0; x2 is what the counts' total has lost, sortTotal the total of the marks -/
theorem rs_x22 (post : Int32 → SX → Prop) (H : Nat) (hH : H < 16) (e : Int32) (c0 w l g gc gs : Nat → Int32) (c0p : ∀ s, s < 256 → c0 s ≤ 0 → c0 s = 0)
    (hp : ∀ c : Nat → Int32, (∀ s, s < 256 → c s = if s / 16 = H then 0 else c0 s) → post (rs_S c0 256 - rs_S c 256) (e - (rs_S c0 256 - rs_S c 256), rs_S (rs_mk c) 256, c, w, l, g, gc, gs)) :
    ∀ d j : Nat, j + d = 16 → ∀ c : Nat → Int32, (∀ s, s < 256 → c s = if 16 * H ≤ s ∧ s < 16 * H + j then 0 else c0 s) →
      wX_forget_22 post (nI (H * 16)) e (d + 1) (rs_S c0 256 - rs_S c 256) (nI (16 * H + j)) (rs_S (rs_mk c) 256) c w l g gc gs := by
  have e16 : nI (H * 16) + 16 = nI (16 * H + 16) := by
    have : nI (H * 16) + nI 16 = nI (H * 16 + 16) := nI_add _ _
    exact this.trans (congrArg nI (by omega))
  intro d
  induction d with
  | zero =>
    intro j hj c I
    have hj' : j = 16 := by omega
    subst hj'
    refine br_t (by rw [e16]; exact Int32.le_refl _) (nm_e (hp c (fun s hs => ?_)))
    rw [I s hs]
    by_cases y : s / 16 = H
    · rw [if_pos y, if_pos (by omega)]
    · rw [if_neg y, if_neg (by omega)]
  | succ d ih =>
    intro j hj c I
    have hs : 16 * H + j < 256 := by omega
    have hv : vp_in (nI (16 * H + j)) 256 := vp_in_nI hs (by omega)
    have Ij : c (16 * H + j) = c0 (16 * H + j) := by
      rw [I _ hs, if_neg (by omega)]
    refine br_f (by rw [e16]; exact nI_ge (by omega) (by omega)) ⟨hv, ?_⟩
    rw [nI_clamp (n := 16 * H + j) (by omega)]
    refine br_c (fun y => nm_r (nI_1 _) ?_) (fun y => ⟨hv, ?_⟩)
    · refine ih (j + 1) (by omega) c (fun s hs' => ?_)
      rw [I s hs']
      by_cases z : s = 16 * H + j
      · subst z
        rw [Ij] at y
        rw [if_neg (by omega), if_pos (by omega)]
        exact c0p _ hs y
      · by_cases z2 : 16 * H ≤ s ∧ s < 16 * H + j
        · rw [if_pos z2, if_pos (by omega)]
        · rw [if_neg z2, if_neg (by omega)]
    · have K := ih (j + 1) (by omega) (upd c (16 * H + j) 0) (fun s hs' => by
        by_cases z : s = 16 * H + j
        · subst z
          rw [pk_us, if_pos (by omega)]
        · rw [pk_un z, I s hs']
          by_cases z2 : 16 * H ≤ s ∧ s < 16 * H + j
          · rw [if_pos z2, if_pos (by omega)]
          · rw [if_neg z2, if_neg (by omega)])
      rw [rs_mk_upd _ _ _ _ hs, rs_S_upd _ _ _ _ hs, if_pos (Int32.le_refl 0)] at K
      have mk1 : rs_mk c (16 * H + j) = 1 := if_neg y
      rw [mk1] at K
      refine nm_r (e' := rs_S c0 256 - (rs_S c 256 + (0 - c (16 * H + j)))) (by grind) (nm_r (e' := rs_S (rs_mk c) 256 + (0 - 1)) (by grind) ⟨hv, nm_e (nm_r (nI_1 _) K)⟩)
/-- the reference: what stays moves down -/
def rs_fg (H n : Nat) (S : Nat → Nat) (A : Nat → Int32) (i m : Nat) (S' : Nat → Nat) (h p q a : Nat → Int32) : Prop :=
  m ≤ i ∧ (∀ j, j < m ∨ (i ≤ j ∧ j < n) → S' j < 256 ∧ (-100 ≤ a j ∧ a j ≤ 100) ∧ h j = nI (S' j / 16) ∧ p j = nI (S' j / 4 % 4) ∧ q j = nI (S' j % 4)) ∧ (∀ j, i ≤ j → j < n → S' j = S j ∧ a j = A j) ∧ ∀ s, rs_G S' a m s = if s / 16 = H then [] else rs_G S A i s
theorem rs_y16 (post : Int32 → SY → Prop) (H : Nat) (hH : H < 16) (n : Nat) (hn : n ≤ 400) (S : Nat → Nat) (A hb sb ob : Nat → Int32)
    (hp : ∀ (m : Nat) (S' : Nat → Nat) (h p q a : Nat → Int32), rs_fg H n S A n m S' h p q a → post (nI n - nI m) (nI m, h, p, q, a, hb, sb, ob)) :
    ∀ d i : Nat, i + d = n → ∀ (m : Nat) (S' : Nat → Nat) (h p q a : Nat → Int32), rs_fg H n S A i m S' h p q a → wY_forget_16 post (nI H) (nI n) (d + 1) (nI m) (nI i) h p q a hb sb ob := by
  intro d
  induction d with
  | zero =>
    intro i hi m S' h p q a I
    have hi' : i = n := by omega
    subst hi'
    exact br_t (Int32.le_refl _) (nm_e (hp m S' h p q a I))
  | succ d ih =>
    intro i hi m S' h p q a I
    have hi' : i < n := by omega
    obtain ⟨I1, I2, I3, I4⟩ := I
    obtain ⟨J1, J2, J3, J4, J5⟩ := I2 i (Or.inr ⟨Nat.le_refl i, hi'⟩)
    obtain ⟨L1, L2⟩ := I3 i (Nat.le_refl i) hi'
    have hv : vp_in (nI i) 400 := vp_in_nI (by omega) (by omega)
    have hw : vp_in (nI m) 400 := vp_in_nI (by omega) (by omega)
    refine br_f (nI_ge hi' (by omega)) ⟨hv, ?_⟩
    rw [nI_clamp (n := i) (by omega), nI_clamp (n := m) (by omega)]
    refine pk_eq (S' i / 16) H (fun y => nm_r (nI_1 i) (ih (i + 1) (by omega) m S' h p q a ⟨by omega, fun j hj => I2 j (by omega), fun j h1 h2 => I3 j (by omega) h2, fun s => ?_⟩)) (fun y => ?_) J3
    · rw [I4 s, rs_G_s]
      by_cases z : s / 16 = H
      · rw [if_pos z, if_pos z]
      · rw [if_neg z, if_neg z, if_neg (by intro r; rw [L1, r] at y; exact z y)]
    · refine ⟨hv, hw, nm_e ⟨hv, hw, nm_e ⟨hv, hw, nm_e ⟨hv, hw, nm_e (nm_r (nI_1 m) (nm_r (nI_1 i) (ih (i + 1) (by omega) (m + 1) (fun j => if j = m then S' i else S' j) _ _ _ _ ⟨by omega, fun j hj => ?_, fun j h1 h2 => ?_, fun s => ?_⟩)))⟩⟩⟩⟩
      · by_cases z : j = m
        · subst z
          dsimp only
          rw [if_pos rfl, pk_us, pk_us, pk_us, pk_us]
          exact ⟨J1, J2, J3, J4, J5⟩
        · dsimp only
          rw [if_neg z, pk_un z, pk_un z, pk_un z, pk_un z]
          exact I2 j (by omega)
      · have z : j ≠ m := by omega
        dsimp only
        rw [if_neg z, pk_un z]
        exact I3 j (by omega) h2
      · rw [rs_G_add, I4 s, rs_G_s, L1, L2]
        by_cases z : s / 16 = H
        · rw [if_pos z, if_pos z]
          exact if_neg (by intro r; rw [L1, r] at y; exact y z)
        · rw [if_neg z, if_neg z]
theorem rs_tot {n : Nat} {S : Nat → Nat} {h p q a c w l g : Nat → Int32} (hn : n ≤ 400) (hE : rs_ev n S h p q a) (hS : rs_st n S a c w l g) : rs_S c 256 = nI n := by
  have k := rs_fub S a (fun _ => 1) (fun _ => true) 256 n (fun i hi => (hE i hi).1)
  have k1 : rs_S c 256 = rs_S (fun s => if true = true then rs_W (fun _ => 1) (rs_G S a n s) else 0) 256 := rs_S_congr 256 (fun s hs => by
    rw [if_pos rfl, rs_W_len]; exact (hS s hs).1)
  rw [k1, k]
  have k2 := rs_N_S (fun _ => true) n
  have k3 : ∀ m, rs_N (fun _ => true) m = m := by
    intro m
    induction m with
    | zero => rfl
    | succ m ih => rw [rs_N_s, ih, if_pos rfl]
  rw [k3] at k2
  exact k2
theorem i_vc_forget {k : Nat} {u : SX} {v : SY} (I : i_Rel k u v) (hk : k + 5 ≤ 2560) (v1 : Int32) : wpX_forget (fun r u' => wpY_forget (fun r' v' => r' = r ∧ i_Rel (k + 5) u' v') v v1) u v1 := by
  obtain ⟨e, t, c, w, l, g, gc, gs⟩ := u
  obtain ⟨z, h, p, q, a, hb, sb, ob⟩ := v
  have J : rs_R e t c w l g z h p q a := I
  obtain ⟨n, S, hn, e1, e2, ht, hE, hS⟩ := id J
  subst e1 e2
  unfold wpX_forget wpY_forget
  dsimp only
  by_cases y0 : v1 < 0
  · exact br_t y0 (br_t y0 ⟨rfl, J⟩)
  · refine br_f y0 ?_
    by_cases y1 : v1 < 16
    · obtain ⟨H, hH', rfl⟩ := nI_of y0
      have hH : H < 16 := (nI_ltI (b := 16) hH' (by omega)).mp y1
      have y2 : nI H ≤ 15 := nI_le (b := 15) (by omega) (by omega)
      refine br_t y1 (nm_r (e' := nI (H * 16)) (pk_mul H 16) ⟨16 + 1, ?_⟩)
      have K : ∀ post : Int32 → SX → Prop, (∀ c' : Nat → Int32, (∀ s, s < 256 → c' s = if s / 16 = H then 0 else c s) → post (rs_S c 256 - rs_S c' 256) (nI n - (rs_S c 256 - rs_S c' 256), rs_S (rs_mk c') 256, c', w, l, g, gc, gs)) →
          wX_forget_22 post (nI (H * 16)) (nI n) (16 + 1) 0 (nI (H * 16)) t c w l g gc gs := by
        intro post hp
        have K := rs_x22 post H hH (nI n) c w l g gc gs (fun s hs y => (rs_c0 hn hS hs).mpr ((rs_cp hn hS hs).mp y)) hp 16 0 rfl c (fun s hs => by rw [if_neg (by omega)])
        rw [Int32.sub_self, ← ht, show 16 * H + 0 = H * 16 from by omega] at K
        exact K
      refine K _ (fun c' hc' => br_f y0 (br_t y2 ⟨n + 1, ?_⟩))
      refine rs_y16 _ H hH n hn S a hb sb ob (fun m S' h' p' q' a' G => ?_) n 0 (by omega) 0 S h p q a ⟨by omega, fun j hj => hE j (by omega), fun j _ _ => ⟨rfl, rfl⟩, fun s => ?_⟩
      · obtain ⟨G1, G2, G3, G4⟩ := G
        have hm : m ≤ 400 := by omega
        have hE' : rs_ev m S' h' p' q' a' := fun i hi => G2 i (Or.inl hi)
        have hS' : rs_st m S' a' c' w l g := by
          intro s hs
          rw [G4 s, hc' s hs]
          by_cases y : s / 16 = H
          · rw [if_pos y, if_pos y]
            exact ⟨rfl, fun r => absurd rfl r⟩
          · rw [if_neg y, if_neg y]
            exact hS s hs
        rw [rs_tot hn hE hS, rs_tot hm hE' hS']
        exact ⟨rfl, m, S', hm, by grind, rfl, rfl, hE', hS'⟩
      · by_cases y : s / 16 = H
        · rw [if_pos y]; rfl
        · rw [if_neg y]
    · have y2 : ¬ v1 ≤ 15 := fun r => y1 (Int32.lt_of_le_of_lt r (by decide +kernel))
      exact br_f y1 (br_f y0 (br_f y2 ⟨rfl, J⟩))
