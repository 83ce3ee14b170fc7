/-! top: how many groups come before one, on both sides; then the search -/
def rs_B (m : Nat → Bool) (s : Nat → Int32) (v o : Nat) : Bool := m o && (decide (s v < s o) || (decide (s o = s v) && decide (o < v)))
theorem rs_B_0 {m : Nat → Bool} {s : Nat → Int32} {v o : Nat} (y : m o = false) : rs_B m s v o = false := by
  unfold rs_B; rw [y, Bool.false_and]
theorem rs_B_1 {m : Nat → Bool} {s : Nat → Int32} {v o : Nat} (y : s v < s o) : rs_B m s v o = m o := by
  unfold rs_B; rw [decide_eq_true y, Bool.true_or, Bool.and_true]
theorem rs_B_2 {m : Nat → Bool} {s : Nat → Int32} {v o : Nat} (y : ¬ s v < s o) (y2 : s o = s v) (y3 : o < v) : rs_B m s v o = m o := by
  unfold rs_B; rw [decide_eq_true y2, decide_eq_true y3, Bool.true_and, Bool.or_true, Bool.and_true]
theorem rs_B_3 {m : Nat → Bool} {s : Nat → Int32} {v o : Nat} (y : ¬ s v < s o) (y3 : ¬ o < v) : rs_B m s v o = false := by
  unfold rs_B; rw [decide_eq_false y, decide_eq_false y3, Bool.and_false, Bool.or_false, Bool.and_false]
theorem rs_B_4 {m : Nat → Bool} {s : Nat → Int32} {v o : Nat} (y : ¬ s v < s o) (y2 : ¬ s o = s v) : rs_B m s v o = false := by
  unfold rs_B; rw [decide_eq_false y, decide_eq_false y2, Bool.false_and, Bool.or_false, Bool.and_false]
theorem rs_N_t {P : Nat → Bool} {j : Nat} (y : P j = true) : rs_N P (j + 1) = rs_N P j + 1 := by rw [rs_N_s, if_pos y]
theorem rs_N_f {P : Nat → Bool} {j : Nat} (y : P j = false) : rs_N P (j + 1) = rs_N P j := by rw [rs_N_s, if_neg (by rw [y]; exact Bool.false_ne_true), Nat.add_zero]
theorem rs_x50 (post : Int32 → Prop) (Jj : Int32 → Int32 → Prop) (x1 : Int32) (N o : Nat) (ho : o < 16) (t0 : Bool) (e t : Int32) (c w l g gc gs : Nat → Int32) (mo : Bool) (hm : gc o ≤ 0 ↔ mo = false)
    (k1 : (mo && t0) = true → Jj (nI (N + 1)) (nI (o + 1))) (k0 : (mo && t0) = false → Jj (nI N) (nI (o + 1))) : wX_groupsBefore_50 post Jj x1 (nI N) (nI o) (rs_b t0) e t c w l g gc gs := by
  unfold wX_groupsBefore_50
  rw [nI_clamp (n := o) (by omega)]
  refine ⟨vp_in_nI ho (by omega), br_c (fun y => nm_r (nI_1 o) (k0 ?_)) (fun y => ?_)⟩
  · rw [hm.mp y, Bool.false_and]
  · have y' : mo = true := by
      cases r : mo
      · exact absurd (hm.mpr r) y
      · rfl
    rw [y', Bool.true_and] at k1 k0
    cases t0
    · exact br_t rfl (nm_r (nI_1 o) (k0 rfl))
    · exact br_f rs_n10 (nm_r (nI_1 N) (nm_r (nI_1 o) (k1 rfl)))
theorem rs_xbef (post : Int32 → Prop) (v : Nat) (hv : v < 16) (e t : Int32) (c w l g gc gs : Nat → Int32) (m : Nat → Bool) (s : Nat → Int32) (hm : ∀ o, o < 16 → (gc o ≤ 0 ↔ m o = false)) (hs : ∀ o, o < 16 → gs o = s o)
    (hp : post (nI (rs_N (rs_B m s v) 16))) : ∀ d j : Nat, j + d = 16 → wX_groupsBefore_4 post (nI v) e t c w l g gc gs (d + 1) (nI (rs_N (rs_B m s v) j)) (nI j) := by
  intro d
  induction d with
  | zero =>
    intro j hj
    have hj' : j = 16 := by omega
    subst hj'
    exact br_t (Int32.le_refl _) hp
  | succ d ih =>
    intro j hj
    have hj' : j < 16 := by omega
    have h1 : vp_in (nI j) 16 := vp_in_nI hj' (by omega)
    have h2 : vp_in (nI v) 16 := vp_in_nI hv (by omega)
    have K := ih (j + 1) (by omega)
    have X1 : rs_B m s v j = m j → wX_groupsBefore_50 post (wX_groupsBefore_4 post (nI v) e t c w l g gc gs (d + 1)) (nI v) (nI (rs_N (rs_B m s v) j)) (nI j) 1 e t c w l g gc gs := fun y =>
      rs_x50 post _ (nI v) _ j hj' true e t c w l g gc gs (m j) (hm j hj')
        (fun r => by rw [Bool.and_true, ← y] at r; rw [rs_N_t r] at K; exact K) (fun r => by rw [Bool.and_true, ← y] at r; rw [rs_N_f r] at K; exact K)
    have X0 : rs_B m s v j = false → wX_groupsBefore_50 post (wX_groupsBefore_4 post (nI v) e t c w l g gc gs (d + 1)) (nI v) (nI (rs_N (rs_B m s v) j)) (nI j) 0 e t c w l g gc gs := fun y =>
      rs_x50 post _ (nI v) _ j hj' false e t c w l g gc gs (m j) (hm j hj')
        (fun r => by rw [Bool.and_false] at r; exact absurd r Bool.false_ne_true) (fun r => by rw [rs_N_f y] at K; exact K)
    refine br_f (nI_ge (b := 16) hj' (by omega)) ⟨h1, h2, ?_⟩
    rw [nI_clamp (n := j) (by omega), nI_clamp (n := v) (by omega), hs j hj', hs v hv]
    refine br_c (fun y => X1 (rs_B_1 y)) (fun y => ⟨h1, h2, br_c (fun y2 => ?_) (fun y2 => X0 (rs_B_4 y y2))⟩)
    exact pk_le v j (fun y3 => X0 (rs_B_3 y (by omega))) (fun y3 => X1 (rs_B_2 y y2 y3))
def rs_tp (m : Nat → Bool) (s : Nat → Int32) (x : Int32) : Nat → Nat → Int32
  | 0, _ => -1
  | d + 1, j => if m j = true ∧ nI (rs_N (rs_B m s j) 16) = x then nI j else rs_tp m s x d (j + 1)
theorem rs_tp_t {m : Nat → Bool} {s : Nat → Int32} {x : Int32} {d j : Nat} (y : m j = true) (y2 : nI (rs_N (rs_B m s j) 16) = x) : rs_tp m s x (d + 1) j = nI j := if_pos ⟨y, y2⟩
theorem rs_tp_f {m : Nat → Bool} {s : Nat → Int32} {x : Int32} {d j : Nat} (y : m j = false) : rs_tp m s x (d + 1) j = rs_tp m s x d (j + 1) := if_neg (fun r => by rw [y] at r; exact Bool.false_ne_true r.1)
theorem rs_tp_n {m : Nat → Bool} {s : Nat → Int32} {x : Int32} {d j : Nat} (y : ¬ nI (rs_N (rs_B m s j) 16) = x) : rs_tp m s x (d + 1) j = rs_tp m s x d (j + 1) := if_neg (fun r => y r.2)
theorem rs_tp_neg {m : Nat → Bool} {s : Nat → Int32} {x : Int32} (hx : ¬ 0 ≤ x) : ∀ d j : Nat, rs_tp m s x d j = -1 := by
  intro d
  induction d with
  | zero => intro j; rfl
  | succ d ih =>
    intro j
    have hl := rs_N_le (rs_B m s j) 16
    rw [rs_tp_n (fun y => hx (by rw [← y]; exact nI_pos' (by omega)))]
    exact ih (j + 1)
theorem rs_xtop (post : Int32 → SX → Prop) (x e t : Int32) (c w l g gc gs : Nat → Int32) (m : Nat → Bool) (s : Nat → Int32) (hm : ∀ o, o < 16 → (gc o ≤ 0 ↔ m o = false)) (hs : ∀ o, o < 16 → gs o = s o) :
    ∀ d j : Nat, j + d = 16 → post (rs_tp m s x d j) (e, t, c, w, l, g, gc, gs) → wX_top_29 post x e t c w l g gc gs (d + 1) (nI j) := by
  intro d
  induction d with
  | zero =>
    intro j hj hp
    have hj' : j = 16 := by omega
    subst hj'
    exact br_t (Int32.le_refl _) hp
  | succ d ih =>
    intro j hj hp
    have hj' : j < 16 := by omega
    refine br_f (nI_ge (b := 16) hj' (by omega)) ⟨vp_in_nI hj' (by omega), ?_⟩
    rw [nI_clamp (n := j) (by omega)]
    refine br_c (fun y => nm_r (nI_1 j) (ih (j + 1) (by omega) ?_)) (fun y => ?_)
    · rw [rs_tp_f ((hm j hj').mp y)] at hp
      exact hp
    · have y' : m j = true := by
        cases r : m j
        · exact absurd ((hm j hj').mpr r) y
        · rfl
      unfold wpX_groupsBefore
      refine ⟨16 + 1, rs_xbef _ j hj' e t c w l g gc gs m s hm hs ?_ 16 0 rfl⟩
      refine br_c (fun r => ?_) (fun r => nm_r (nI_1 j) (ih (j + 1) (by omega) ?_))
      · rw [rs_tp_t y' r] at hp
        exact hp
      · rw [rs_tp_n r] at hp
        exact hp
theorem rs_y41 (post : Int32 → SY → Prop) (Jj : Int32 → Prop) (x : Int32) (v : Nat) (hv : v < 16) (z : Int32) (h p q a hb sb ob : Nat → Int32) (m : Nat → Bool) (s : Nat → Int32) (hm : ∀ o, o < 16 → hb o = rs_b (m o)) (hs : ∀ o, o < 16 → sb o = s o)
    (k1 : m v = true → nI (rs_N (rs_B m s v) 16) = x → post (nI v) (z, h, p, q, a, hb, sb, ob)) (k0 : m v = false ∨ ¬ nI (rs_N (rs_B m s v) 16) = x → Jj (nI (v + 1))) :
    ∀ d j : Nat, j + d = 16 → wY_top_41 post Jj x (nI v) z h p q a hb sb ob (d + 1) (nI (rs_N (rs_B m s v) j)) (nI j) := by
  have h2 : vp_in (nI v) 16 := vp_in_nI hv (by omega)
  intro d
  induction d with
  | zero =>
    intro j hj
    have hj' : j = 16 := by omega
    subst hj'
    refine br_t (Int32.le_refl _) ⟨h2, ?_⟩
    rw [nI_clamp (n := v) (by omega), hm v hv]
    cases y : m v
    · exact br_t rfl (nm_r (nI_1 v) (k0 (Or.inl y)))
    · exact br_f rs_n10 (br_c (fun r => k1 y r) (fun r => nm_r (nI_1 v) (k0 (Or.inr r))))
  | succ d ih =>
    intro j hj
    have hj' : j < 16 := by omega
    have h1 : vp_in (nI j) 16 := vp_in_nI hj' (by omega)
    have K := ih (j + 1) (by omega)
    have X0 : rs_B m s v j = false → wY_top_41 post Jj x (nI v) z h p q a hb sb ob (d + 1) (nI (rs_N (rs_B m s v) j)) (nI (j + 1)) := fun y => by
      rw [rs_N_f y] at K; exact K
    have X1 : rs_B m s v j = true → wY_top_41 post Jj x (nI v) z h p q a hb sb ob (d + 1) (nI (rs_N (rs_B m s v) j + 1)) (nI (j + 1)) := fun y => by
      rw [rs_N_t y] at K; exact K
    refine br_f (nI_ge (b := 16) hj' (by omega)) ⟨h1, ?_⟩
    rw [nI_clamp (n := j) (by omega), nI_clamp (n := v) (by omega), hm j hj', hs j hj', hs v hv]
    cases y0 : m j
    · exact br_t rfl (nm_r (nI_1 j) (X0 (rs_B_0 y0)))
    · refine br_f rs_n10 ⟨h1, h2, br_c (fun y => nm_r (nI_1 _) (nm_r (nI_1 j) (X1 ((rs_B_1 y).trans y0)))) (fun y => ⟨h1, h2, br_c (fun y2 => ?_) (fun y2 => nm_r (nI_1 j) (X0 (rs_B_4 y y2)))⟩)⟩
      exact pk_le v j (fun y3 => nm_r (nI_1 j) (X0 (rs_B_3 y (by omega)))) (fun y3 => nm_r (nI_1 _) (nm_r (nI_1 j) (X1 ((rs_B_2 y y2 y3).trans y0))))
theorem rs_ytop (post : Int32 → SY → Prop) (x z : Int32) (h p q a hb sb ob : Nat → Int32) (m : Nat → Bool) (s : Nat → Int32) (hm : ∀ o, o < 16 → hb o = rs_b (m o)) (hs : ∀ o, o < 16 → sb o = s o) :
    ∀ d j : Nat, j + d = 16 → post (rs_tp m s x d j) (z, h, p, q, a, hb, sb, ob) → wY_top_28 post x z h p q a hb sb ob (d + 1) (nI j) := by
  intro d
  induction d with
  | zero =>
    intro j hj hp
    have hj' : j = 16 := by omega
    subst hj'
    exact br_t (Int32.le_refl _) hp
  | succ d ih =>
    intro j hj hp
    have hj' : j < 16 := by omega
    refine br_f (nI_ge (b := 16) hj' (by omega)) ⟨16 + 1, rs_y41 post _ x j hj' z h p q a hb sb ob m s hm hs (fun y r => ?_) (fun r => ih (j + 1) (by omega) ?_) 16 0 rfl⟩
    · rw [rs_tp_t y r] at hp
      exact hp
    · rcases r with r | r
      · rw [rs_tp_f r] at hp
        exact hp
      · rw [rs_tp_n r] at hp
        exact hp
theorem i_vc_top {k : Nat} {u : SX} {v : SY} (I : i_Rel k u v) (hk : k + 5 ≤ 2560) (v1 : Int32) (v2 : Int32) (v3 : Int32) : wpX_top (fun r u' => wpY_top (fun r' v' => r' = r ∧ i_Rel (k + 5) u' v') v v1 v2 v3) u v1 v2 v3 := by
  obtain ⟨e, t, c, w, l, g, gc, gs⟩ := u
  obtain ⟨z, h, p, q, a, hb, sb, ob⟩ := v
  have J : rs_R e t c w l g z h p q a := I
  obtain ⟨n, S, hn, e1, e2, ht, hE, hS⟩ := id J
  subst e1 e2
  unfold wpX_top
  rcases rs_ff v1 with ⟨F, hF, rfl⟩ | hf
  · refine rs_xf1 _ hF (br_f rs_n10 ?_)
    rcases rs_bb v2 with ⟨b, hb3, rfl⟩ | hbb
    · have Y : ∀ (r : Int32) (gc gs : Nat → Int32), rs_tp (fun v => rs_YM S F b v n) (fun v => rs_YC S a F b v n) v3 16 0 = r → wpY_top (fun r' v' => r' = r ∧ i_Rel (k + 5) (nI n, t, c, w, l, g, gc, gs) v') (nI n, h, p, q, a, hb, sb, ob) (nI F) (nI b) v3 := by
        intro r gc gs er
        unfold wpY_top
        refine rs_yf1 _ hF _ (br_f rs_n10 ?_)
        refine pk_lt b 0 (fun y => by omega) (fun _ => pk_le b 2 (fun _ => ?_) (fun y => by omega))
        refine rs_ygat _ F b hF hb3 hn hE hb sb ob (fun hb' sb' I => ?_)
        exact ⟨16 + 1, rs_ytop _ v3 (nI n) h p q a hb' sb' ob _ _ (fun o ho => (I o ho).1) (fun o ho => (I o ho).2) 16 0 rfl ⟨er, J⟩⟩
      refine rs_xg1 _ hb3 (br_f rs_n10 (br_c (fun y => ?_) (fun y => ?_)))
      · refine rs_xgat _ F b hF hb3 (nI n) t c w l g gc gs (fun gc' gs' I => ?_)
        exact ⟨16 + 1, rs_xtop _ v3 (nI n) t c w l g gc' gs' (fun v => rs_YM S F b v n) (fun v => rs_YC S a F b v n) (fun o ho => by rw [(I o ho).1]; exact rs_gcnt hn hE hS F b o) (fun o ho => by rw [(I o ho).2]; exact rs_gsum hn hE hS F b o) 16 0 rfl (Y _ gc' gs' rfl)⟩
      · exact Y _ gc gs (rs_tp_neg y 16 0)
    · refine rs_xg0 _ hbb (br_t rfl ?_)
      unfold wpY_top
      refine rs_yf1 _ hF _ (br_f rs_n10 ?_)
      rcases hbb with y | y
      · exact br_t y ⟨rfl, J⟩
      · exact br_c (fun _ => ⟨rfl, J⟩) (fun _ => br_f (Int32.not_le.mpr y) ⟨rfl, J⟩)
  · refine rs_xf0 _ hf (br_t rfl ?_)
    unfold wpY_top
    exact rs_yf0 _ hf _ (br_t rfl ⟨rfl, J⟩)
