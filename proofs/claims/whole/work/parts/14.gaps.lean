/-! gaps: both walk the same 16 marks -/
def rs_gi (j : Nat) (x2 x3 x4 y2 y3 y4 : Int32) : Prop :=
  (x4 = 0 ∧ x2 = 0 ∧ x3 = 0 ∧ y2 = 16 ∧ y3 = -1 ∧ y4 = 0) ∨
  (x4 = 1 ∧ ∃ f L : Nat, f < 16 ∧ L < 16 ∧ y2 = nI f ∧ y3 = nI L ∧ x2 = ((y3 - y2) + 1) - y4 ∧ x3 = (nI j - 1) - y3)
theorem rs_y73_0 (post : Int32 → SY → Prop) (Jj : Int32 → Int32 → Int32 → Int32 → Prop) (x2 x4 z0 : Int32) (j : Nat) (hj : j < 16) (z : Int32) (h p q a hb sb ob : Nat → Int32) (m : hb j = 0) (k : Jj x2 z0 x4 (nI (j + 1))) : wY_gaps_73 post Jj x2 x4 (nI j) z0 z h p q a hb sb ob := by
  unfold wY_gaps_73
  rw [nI_clamp (n := j) (by omega)]
  exact ⟨vp_in_nI hj (by omega), br_t m (nm_r (nI_1 j) k)⟩
theorem rs_y73_1 (post : Int32 → SY → Prop) (Jj : Int32 → Int32 → Int32 → Int32 → Prop) (x2 x4 z0 : Int32) (j : Nat) (hj : j < 16) (z : Int32) (h p q a hb sb ob : Nat → Int32) (m : ¬ hb j = 0) (k : Jj x2 z0 (x4 + 1) (nI (j + 1))) : wY_gaps_73 post Jj x2 x4 (nI j) z0 z h p q a hb sb ob := by
  unfold wY_gaps_73
  rw [nI_clamp (n := j) (by omega)]
  exact ⟨vp_in_nI hj (by omega), br_f m (nm_e (nm_r (nI_1 j) k))⟩
theorem rs_y56_0 (post : Int32 → SY → Prop) (Jj : Int32 → Int32 → Int32 → Int32 → Prop) (x3 x4 z0 : Int32) (j : Nat) (hj : j < 16) (z : Int32) (h p q a hb sb ob : Nat → Int32) (m : hb j = 0) (k : Jj z0 x3 x4 (nI (j + 1))) : wY_gaps_56 post Jj x3 x4 (nI j) z0 z h p q a hb sb ob := by
  unfold wY_gaps_56
  rw [nI_clamp (n := j) (by omega)]
  exact ⟨vp_in_nI hj (by omega), br_t m (rs_y73_0 post Jj z0 x4 x3 j hj z h p q a hb sb ob m k)⟩
theorem rs_y56_1 (post : Int32 → SY → Prop) (Jj : Int32 → Int32 → Int32 → Int32 → Prop) (x3 x4 z0 : Int32) (j : Nat) (hj : j < 16) (z : Int32) (h p q a hb sb ob : Nat → Int32) (m : ¬ hb j = 0) (k : Jj z0 (nI j) (x4 + 1) (nI (j + 1))) : wY_gaps_56 post Jj x3 x4 (nI j) z0 z h p q a hb sb ob := by
  unfold wY_gaps_56
  rw [nI_clamp (n := j) (by omega)]
  exact ⟨vp_in_nI hj (by omega), br_f m (rs_y73_1 post Jj z0 x4 (nI j) j hj z h p q a hb sb ob m k)⟩
theorem rs_gap (e t : Int32) (c w l g gc gs : Nat → Int32) (z : Int32) (h p q a ob : Nat → Int32) (m : Nat → Bool) (hm : ∀ o, o < 16 → (gc o ≤ 0 ↔ m o = false)) :
    ∀ d j : Nat, j + d = 16 → ∀ x2 x3 x4 y2 y3 y4 : Int32, rs_gi j x2 x3 x4 y2 y3 y4 → ∃ r : Int32,
      (∀ post : Int32 → SX → Prop, post r (e, t, c, w, l, g, gc, gs) → wX_gaps_25 post e t c w l g gc gs (d + 1) x2 x3 x4 (nI j)) ∧
      (∀ hb sb : Nat → Int32, (∀ o, o < 16 → hb o = rs_b (m o)) → ∀ post : Int32 → SY → Prop, post r (z, h, p, q, a, hb, sb, ob) → wY_gaps_27 post z h p q a hb sb ob (d + 1) y2 y3 y4 (nI j)) := by
  intro d
  induction d with
  | zero =>
    intro j hj x2 x3 x4 y2 y3 y4 I
    have hj' : j = 16 := by omega
    subst hj'
    refine ⟨x2, fun post hp => br_t (Int32.le_refl _) hp, fun hb sb hm' post hp => br_t (Int32.le_refl _) ?_⟩
    rcases I with ⟨_, e2, _, _, e3, _⟩ | ⟨_, f, L, _, hL, _, e3, e2, _⟩
    · refine br_f (by rw [e3]; decide +kernel) ?_
      rw [e2] at hp
      exact hp
    · refine br_t (by rw [e3]; exact nI_pos' (by omega)) ?_
      rw [e2] at hp
      exact hp
  | succ d ih =>
    intro j hj x2 x3 x4 y2 y3 y4 I
    have hj' : j < 16 := by omega
    have hv : vp_in (nI j) 16 := vp_in_nI hj' (by omega)
    have ge : ¬ (16 : Int32) ≤ nI j := nI_ge (b := 16) hj' (by omega)
    have cl : (nI j).toNatClampNeg = j := nI_clamp (by omega)
    cases y : m j
    · have b0 : ∀ hb : Nat → Int32, (∀ o, o < 16 → hb o = rs_b (m o)) → hb j = 0 := fun hb hm' => by rw [hm' j hj', y]; rfl
      have g0 : gc j ≤ 0 := (hm j hj').mpr y
      rcases I with ⟨i1, i2, i3, i4, i5, i6⟩ | ⟨i1, f, L, hf, hL, i4, i5, i2, i3⟩
      · obtain ⟨r, hX, hY⟩ := ih (j + 1) (by omega) x2 x3 x4 y2 y3 y4 (Or.inl ⟨i1, i2, i3, i4, i5, i6⟩)
        refine ⟨r, fun post hp => br_f ge ⟨hv, ?_⟩, fun hb sb hm' post hp => br_f ge ⟨hv, ?_⟩⟩
        · rw [cl]
          exact br_t g0 (br_t i1 (nm_r (nI_1 j) (hX post hp)))
        · rw [cl]
          exact br_t (b0 hb hm') (rs_y56_0 post _ y3 y4 y2 j hj' z h p q a hb sb ob (b0 hb hm') (hY hb sb hm' post hp))
      · obtain ⟨r, hX, hY⟩ := ih (j + 1) (by omega) x2 (x3 + 1) x4 y2 y3 y4 (Or.inr ⟨i1, f, L, hf, hL, i4, i5, i2, by rw [i3, ← nI_1]; grind⟩)
        refine ⟨r, fun post hp => br_f ge ⟨hv, ?_⟩, fun hb sb hm' post hp => br_f ge ⟨hv, ?_⟩⟩
        · rw [cl]
          exact br_t g0 (br_f (by rw [i1]; exact rs_n10) (nm_e (nm_r (nI_1 j) (hX post hp))))
        · rw [cl]
          exact br_t (b0 hb hm') (rs_y56_0 post _ y3 y4 y2 j hj' z h p q a hb sb ob (b0 hb hm') (hY hb sb hm' post hp))
    · have b1 : ∀ hb : Nat → Int32, (∀ o, o < 16 → hb o = rs_b (m o)) → ¬ hb j = 0 := fun hb hm' => by rw [hm' j hj', y]; exact rs_n10
      have g1 : ¬ gc j ≤ 0 := fun r => by rw [(hm j hj').mp r] at y; exact Bool.false_ne_true y
      rcases I with ⟨i1, i2, i3, i4, i5, i6⟩ | ⟨i1, f, L, hf, hL, i4, i5, i2, i3⟩
      · obtain ⟨r, hX, hY⟩ := ih (j + 1) (by omega) (x2 + x3) 0 1 (nI j) (nI j) (y4 + 1) (Or.inr ⟨rfl, j, j, hj', hj', rfl, rfl, by rw [i2, i3, i6]; grind, by rw [← nI_1]; grind⟩)
        refine ⟨r, fun post hp => br_f ge ⟨hv, ?_⟩, fun hb sb hm' post hp => br_f ge ⟨hv, ?_⟩⟩
        · rw [cl]
          exact br_f g1 (nm_e (nm_r (nI_1 j) (hX post hp)))
        · rw [cl]
          exact br_f (b1 hb hm') (br_t i4 (rs_y56_1 post _ y3 y4 (nI j) j hj' z h p q a hb sb ob (b1 hb hm') (hY hb sb hm' post hp)))
      · have n16 : ¬ y2 = 16 := by
          rw [i4]
          exact fun r => absurd ((nI_eq (b := 16) (by omega) (by omega)).mp r) (by omega)
        obtain ⟨r, hX, hY⟩ := ih (j + 1) (by omega) (x2 + x3) 0 1 y2 (nI j) (y4 + 1) (Or.inr ⟨rfl, f, j, hf, hj', i4, rfl, by rw [i2, i3]; grind, by rw [← nI_1]; grind⟩)
        refine ⟨r, fun post hp => br_f ge ⟨hv, ?_⟩, fun hb sb hm' post hp => br_f ge ⟨hv, ?_⟩⟩
        · rw [cl]
          exact br_f g1 (nm_e (nm_r (nI_1 j) (hX post hp)))
        · rw [cl]
          exact br_f (b1 hb hm') (br_f n16 (rs_y56_1 post _ y3 y4 y2 j hj' z h p q a hb sb ob (b1 hb hm') (hY hb sb hm' post hp)))
theorem i_vc_gaps {k : Nat} {u : SX} {v : SY} (I : i_Rel k u v) (hk : k + 5 ≤ 2560) (v1 : Int32) : wpX_gaps (fun r u' => wpY_gaps (fun r' v' => r' = r ∧ i_Rel (k + 5) u' v') v v1) u v1 := by
  obtain ⟨e, t, c, w, l, g, gc, gs⟩ := u
  obtain ⟨z, h, p, q, a, hb, sb, ob⟩ := v
  have J : rs_R e t c w l g z h p q a := I
  obtain ⟨n, S, hn, e1, e2, ht, hE, hS⟩ := id J
  subst e1 e2
  unfold wpX_gaps
  rcases rs_ff v1 with ⟨F, hF, rfl⟩ | hf
  · refine rs_xf1 _ hF (br_f rs_n10 ?_)
    refine rs_xgat _ F 0 hF (by omega) (nI n) t c w l g gc gs (fun gc' gs' I => ?_)
    have hm : ∀ o, o < 16 → (gc' o ≤ 0 ↔ rs_YM S F 0 o n = false) := fun o ho => by rw [(I o ho).1]; exact rs_gcnt hn hE hS F 0 o
    obtain ⟨r, hX, hY⟩ := rs_gap (nI n) t c w l g gc' gs' (nI n) h p q a ob (fun o => rs_YM S F 0 o n) hm 16 0 rfl 0 0 0 16 (-1) 0 (Or.inl ⟨rfl, rfl, rfl, rfl, rfl, rfl⟩)
    refine ⟨16 + 1, hX _ ?_⟩
    unfold wpY_gaps
    refine rs_yf1 _ hF _ (br_f rs_n10 ?_)
    refine rs_ygat _ F 0 hF (by omega) hn hE hb sb ob (fun hb' sb' I' => ?_)
    exact ⟨16 + 1, hY hb' sb' (fun o ho => (I' o ho).1) _ ⟨rfl, J⟩⟩
  · refine rs_xf0 _ hf (br_t rfl ?_)
    unfold wpY_gaps
    exact rs_yf0 _ hf _ (br_t rfl ⟨rfl, J⟩)
