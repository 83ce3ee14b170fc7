/-! take: the reference's side, and both -/
theorem rs_yof4 (post : Int32 → Prop) {n : Nat} {S : Nat → Nat} {h p q a : Nat → Int32} (hn : n ≤ 400) (hE : rs_ev n S h p q a) (hb sb ob : Nat → Int32) (s : Nat) (hs : s < 256) (k : post (nI (rs_G S a n s).length)) :
    ∀ d j : Nat, j + d = n → wY_ofSort_4 post (nI s) (nI n) h p q a hb sb ob (d + 1) (nI (rs_G S a j s).length) (nI j) := by
  intro d
  induction d with
  | zero =>
    intro j hj
    have hj' : j = n := by omega
    subst hj'
    exact br_t (Int32.le_refl _) k
  | succ d ih =>
    intro j hj
    have hj' : j < n := by omega
    refine br_f (nI_ge hj' (by omega)) ?_
    refine rs_ysort _ hn hE (nI n) hb sb ob hj' ?_
    have K := ih (j + 1) (by omega)
    rw [rs_G_s] at K
    have hS := (hE j hj').1
    refine pk_eq (S j) s (fun y => ?_) (fun y => ?_)
    · rw [if_pos y, List.length_cons] at K
      exact nm_r (nI_1 _) (nm_r (nI_1 j) K)
    · rw [if_neg y] at K
      exact nm_r (nI_1 j) K
theorem rs_yof (post : Int32 → Prop) {n : Nat} {S : Nat → Nat} {h p q a : Nat → Int32} (hn : n ≤ 400) (hE : rs_ev n S h p q a) (hb sb ob : Nat → Int32) (s : Nat) (hs : s < 256) (k : post (nI (rs_G S a n s).length)) :
    wpY_ofSort post (nI n, h, p, q, a, hb, sb, ob) (nI s) := by
  unfold wpY_ofSort
  dsimp only
  exact ⟨n + 1, rs_yof4 post hn hE hb sb ob s hs k n 0 (by omega)⟩
theorem rs_y89 (post : Int32 → SY → Prop) {n : Nat} {S : Nat → Nat} {h p q a : Nat → Int32} (hn : n < 400) (hE : rs_ev n S h p q a) (hb sb ob : Nat → Int32) {T P K s : Nat} (hT : T < 64) (hP : P < 4) (hK : K < 4) (es : s = 16 * (T / 4) + 4 * P + K)
    {x : Int32} (hx : -100 ≤ x ∧ x ≤ 100)
    (k : post (nI ((rs_G S a n s).length + 1)) (nI (n + 1), upd h n (nI (s / 16)), upd p n (nI (s / 4 % 4)), upd q n (nI (s % 4)), upd a n x, hb, sb, ob)) :
    wY_take_89 post (nI T) (nI P) (nI K) x (nI s) (nI n) h p q a hb sb ob := by
  have hs : s < 256 := by omega
  have hv : vp_in (nI n) 400 := vp_in_nI hn (by omega)
  have e1 : nI T / 4 = nI (s / 16) := by
    have : nI T / nI 4 = nI (T / 4) := pk_div (by omega) (by omega) (by omega)
    exact this.trans (congrArg nI (by omega))
  have e2 : nI P = nI (s / 4 % 4) := congrArg nI (by omega)
  have e3 : nI K = nI (s % 4) := congrArg nI (by omega)
  unfold wY_take_89
  rw [nI_clamp (n := n) (by omega), e1, e2, e3]
  refine ⟨by decide, hv, nm_e ⟨hv, nm_e ⟨hv, nm_e ⟨hv, nm_e (nm_r (nI_1 n) ?_)⟩⟩⟩⟩
  refine rs_yof _ (by omega) (rs_ev_add hE hs hx rfl rfl rfl) hb sb ob s hs ?_
  rw [rs_G_add, if_pos rfl, List.length_cons]
  exact k
theorem rs_ysn {T P K s : Nat} (hT : T < 64) (es : s = 16 * (T / 4) + 4 * P + K) : ((16 * (nI T / 4)) + (4 * nI P)) + nI K = nI s := by
  have e0 : nI T / 4 = nI (T / 4) := pk_div (d := 4) (by omega) (by omega) (by omega)
  have a1 : (16 : Int32) * nI (T / 4) = nI (16 * (T / 4)) := pk_mul 16 _
  have a2 : (4 : Int32) * nI P = nI (4 * P) := pk_mul 4 _
  rw [e0, a1, a2, nI_add, nI_add, es]
theorem rs_xsn {T P K s : Nat} (hT : T < 64) (es : s = 16 * (T / 4) + 4 * P + K) : (((nI T / 4) * 16) + (4 * nI P)) + nI K = nI s := by
  have e0 : nI T / 4 = nI (T / 4) := pk_div (d := 4) (by omega) (by omega) (by omega)
  have a1 : nI (T / 4) * 16 = nI (T / 4 * 16) := pk_mul _ 16
  have a2 : (4 : Int32) * nI P = nI (4 * P) := pk_mul 4 _
  rw [e0, a1, a2, nI_add, nI_add, es]
  exact congrArg nI (by omega)
theorem rs_ytake (post : Int32 → SY → Prop) {n : Nat} {S : Nat → Nat} {h p q a c w l g : Nat → Int32} (hn : n ≤ 400) (hE : rs_ev n S h p q a) (hS : rs_st n S a c w l g) (hb sb ob : Nat → Int32) {T P K s : Nat} (hT : T < 64) (hP : P < 4) (hK : K < 4) (es : s = 16 * (T / 4) + 4 * P + K)
    {x : Int32} (hv : ¬ rs_evb (nI T) (nI P) (nI K) x) (hx : -100 ≤ x ∧ x ≤ 100)
    (k2 : n = 400 ∨ (c s ≤ 0 ∧ 40 ≤ rs_S (rs_mk c) 256) → ∀ ob : Nat → Int32, post (-2) (nI n, h, p, q, a, hb, sb, ob))
    (k : n < 400 → ¬ c s ≤ 0 ∨ ¬ 40 ≤ rs_S (rs_mk c) 256 → ∀ ob : Nat → Int32, post (nI ((rs_G S a n s).length + 1)) (nI (n + 1), upd h n (nI (s / 16)), upd p n (nI (s / 4 % 4)), upd q n (nI (s % 4)), upd a n x, hb, sb, ob)) :
    wpY_take post (nI n, h, p, q, a, hb, sb, ob) (nI T) (nI P) (nI K) x := by
  have hs : s < 256 := by omega
  have hl := rs_G_len S a n s
  obtain ⟨y0, y1, y2, y3, y4, y5, y6, y7⟩ := rs_evg hv
  unfold wpY_take
  dsimp only
  refine br_f y0 (br_f y1 (br_f y2 (br_f y3 (br_f y4 (br_f y5 (br_f y6 (br_t hx.2 ⟨by decide, nm_r (rs_ysn hT es) ?_⟩)))))))
  refine pk_le 400 n (fun y => k2 (Or.inl (by omega)) ob) (fun y => ?_)
  refine rs_yof _ hn hE hb sb ob s hs ?_
  refine pk_eq (rs_G S a n s).length 0 (fun z => ?_) (fun z => ?_)
  · have z' : c s ≤ 0 := (rs_cp hn hS hs).mpr (List.length_eq_zero_iff.mp z)
    refine rs_ysorts _ hn hE hS hb sb ob (fun ob' => ?_)
    refine br_c (fun r => ?_) (fun r => ?_)
    · exact rs_y89 post (by omega) hE hb sb ob' hT hP hK es hx (k (by omega) (Or.inr (Int32.not_le.mpr r)) ob')
    · exact k2 (Or.inr ⟨z', Int32.not_lt.mp r⟩) ob'
  · have z' : ¬ c s ≤ 0 := fun r => z (List.length_eq_zero_iff.mpr ((rs_cp hn hS hs).mp r))
    exact rs_y89 post (by omega) hE hb sb ob hT hP hK es hx (k (by omega) (Or.inl z') ob)
theorem rs_xroom (post : Int32 → Prop) {n s : Nat} (hn : n ≤ 400) (hs : s < 256) (t : Int32) (c w l g gc gs : Nat → Int32) (k0 : n = 400 ∨ (c s ≤ 0 ∧ 40 ≤ t) → post 0) (k1 : n < 400 → ¬ c s ≤ 0 ∨ ¬ 40 ≤ t → post 1) :
    wpX_hasRoomFor post (nI n, t, c, w, l, g, gc, gs) (nI s) := by
  unfold wpX_hasRoomFor
  dsimp only
  refine pk_le 400 n (fun y => k0 (Or.inl (by omega))) (fun y => ⟨vp_in_nI hs (by omega), ?_⟩)
  rw [nI_clamp (by omega)]
  exact br_c (fun y1 => k1 (by omega) (Or.inl (Int32.not_le.mpr y1))) (fun y1 => br_c (fun y2 => k0 (Or.inr ⟨Int32.not_lt.mp y1, y2⟩)) (fun y2 => k1 (by omega) (Or.inr y2)))
theorem i_vc_take {k : Nat} {u : SX} {v : SY} (I : i_Rel k u v) (hk : k + 5 ≤ 2560) (v1 : Int32) (v2 : Int32) (v3 : Int32) (v4 : Int32) : wpX_take (fun r u' => wpY_take (fun r' v' => r' = r ∧ i_Rel (k + 5) u' v') v v1 v2 v3 v4) u v1 v2 v3 v4 := by
  obtain ⟨e, t, c, w, l, g, gc, gs⟩ := u
  obtain ⟨z, h, p, q, a, hb, sb, ob⟩ := v
  have J : rs_R e t c w l g z h p q a := I
  obtain ⟨n, S, hn, e1, e2, ht, hE, hS⟩ := id J
  subst e1 e2
  unfold wpX_take
  dsimp only
  by_cases hv : rs_evb v1 v2 v3 v4
  · exact rs_xe0 _ hv (br_t rfl (rs_yt0 _ hv _ _ _ _ _ _ _ _ ⟨rfl, J⟩))
  · obtain ⟨T, P, K, hT, hP, hK, rfl, rfl, rfl, hx⟩ := rs_evn hv
    obtain ⟨s, es⟩ : ∃ s, s = 16 * (T / 4) + 4 * P + K := ⟨_, rfl⟩
    have hs : s < 256 := by omega
    have hl := rs_G_len S a n s
    refine rs_xe1 _ hv (br_f rs_n10 ⟨by decide, nm_r (rs_xsn hT es) ?_⟩)
    have full : n = 400 ∨ (c s ≤ 0 ∧ 40 ≤ t) → wpY_take (fun r' v' => r' = -2 ∧ i_Rel (k + 5) (nI n, t, c, w, l, g, gc, gs) v') (nI n, h, p, q, a, hb, sb, ob) (nI T) (nI P) (nI K) v4 := by
      intro f
      rw [ht] at f
      refine rs_ytake _ hn hE hS hb sb ob hT hP hK es hv hx (fun _ ob' => ⟨rfl, J⟩) (fun m1 m2 => ?_)
      rcases f with f | f
      · omega
      · rcases m2 with m2 | m2
        · exact absurd f.1 m2
        · exact absurd f.2 m2
    refine rs_xroom _ hn hs t c w l g gc gs (fun f => br_t rfl (full f)) (fun f1 f2 => br_f rs_n10 ?_)
    rw [ht] at f2
    refine rs_xadd _ s hs v4 (nI n) t c w l g gc gs (fun t' w' l' g' A => ⟨vp_in_nI hs (by omega), ?_⟩)
    refine rs_ytake _ hn hE hS hb sb ob hT hP hK es hv hx (fun m ob' => ?_) (fun _ _ ob' => ⟨?_, ?_⟩)
    · rcases m with m | m
      · omega
      · rcases f2 with f2 | f2
        · exact absurd m.1 f2
        · exact absurd m.2 f2
    · rw [nI_clamp (by omega)]
      show nI ((rs_G S a n s).length + 1) = upd c s (c s + 1) s
      rw [pk_us, (hS s hs).1, nI_1]
    · exact ⟨n + 1, fun i => if i = n then s else S i, by omega, nI_1 n, rfl, rs_t_add hn hS hs ht A, rs_ev_add hE hs hx rfl rfl rfl, rs_st_add hn hS hs A⟩
