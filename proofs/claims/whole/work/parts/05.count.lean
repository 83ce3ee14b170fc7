/-! count, sum -/
theorem rs_xcount (post : Int32 → Prop) (F : Nat) (hF : F < 262144) (e t : Int32) (c w l g gc gs f : Nat → Int32)
    (f1 : ∀ s, rs_Q c F s = true → f s = c s) (f0 : ∀ s, rs_Q c F s = false → f s = 0) (hp : post (rs_S f 256)) :
    ∀ d j : Nat, j + d = 256 → wX_count_13 post (nI F) e t c w l g gc gs (d + 1) (rs_S f j) (nI j) := by
  intro d
  induction d with
  | zero =>
    intro j hj
    have hj' : j = 256 := by omega
    subst hj'
    exact br_t (Int32.le_refl _) hp
  | succ d ih =>
    intro j hj
    have hj' : j < 256 := by omega
    refine br_f (nI_ge (b := 256) hj' (by omega)) ?_
    refine rs_hp _ e t c w l g gc gs j F hj' hF (fun k => ?_) (fun k => ?_)
    · refine br_f rs_n10 ⟨vp_in_nI hj' (by omega), nm_r (e' := rs_S f (j + 1)) ?_ (nm_r (nI_1 j) (ih (j + 1) (by omega)))⟩
      rw [nI_clamp (by omega), rs_S_s, f1 j k]
    · refine br_t rfl (nm_r (nI_1 j) ?_)
      have := ih (j + 1) (by omega)
      rw [rs_S_s, f0 j k, Int32.add_zero] at this
      exact this
theorem rs_xsum (post : Int32 → Prop) (F : Nat) (hF : F < 262144) (e t : Int32) (c w l g gc gs f : Nat → Int32)
    (f1 : ∀ s, rs_Q c F s = true → f s = w s) (f0 : ∀ s, rs_Q c F s = false → f s = 0) (hp : post (rs_S f 256)) :
    ∀ d j : Nat, j + d = 256 → wX_sum_14 post (nI F) e t c w l g gc gs (d + 1) (rs_S f j) (nI j) := by
  intro d
  induction d with
  | zero =>
    intro j hj
    have hj' : j = 256 := by omega
    subst hj'
    exact br_t (Int32.le_refl _) hp
  | succ d ih =>
    intro j hj
    have hj' : j < 256 := by omega
    refine br_f (nI_ge (b := 256) hj' (by omega)) ?_
    refine rs_hp _ e t c w l g gc gs j F hj' hF (fun k => ?_) (fun k => ?_)
    · refine br_f rs_n10 ⟨vp_in_nI hj' (by omega), nm_r (e' := rs_S f (j + 1)) ?_ (nm_r (nI_1 j) (ih (j + 1) (by omega)))⟩
      rw [nI_clamp (by omega), rs_S_s, f1 j k]
    · refine br_t rfl (nm_r (nI_1 j) ?_)
      have := ih (j + 1) (by omega)
      rw [rs_S_s, f0 j k, Int32.add_zero] at this
      exact this
theorem rs_ycount (post : Int32 → Prop) (x : Int32) (n : Nat) (hn : n ≤ 400) (h p q a hb sb ob f : Nat → Int32)
    (f1 : ∀ i, rs_yp x (h i) (p i) (q i) = true → f i = 1) (f0 : ∀ i, rs_yp x (h i) (p i) (q i) = false → f i = 0)
    (hp : wpY_filter (fun r_2 => (((r_2 = 0 → (post (-1))) ∧ (¬ r_2 = 0 → (post (rs_S f n)))))) (nI n, h, p, q, a, hb, sb, ob) x) :
    ∀ d j : Nat, j + d = n → wY_count_4 post x (nI n) h p q a hb sb ob (d + 1) (rs_S f j) (nI j) := by
  intro d
  induction d with
  | zero =>
    intro j hj
    have hj' : j = n := by omega
    subst hj'
    exact br_t (Int32.le_refl _) hp
  | succ d ih =>
    intro j hj
    have hj' : j < n := by omega
    refine br_f (nI_ge hj' (by omega)) ?_
    refine rs_yps _ x j (by omega) (nI n) h p q a hb sb ob (fun k => ?_) (fun k => ?_)
    · refine br_f rs_n10 (nm_r (e' := rs_S f (j + 1)) ?_ (nm_r (nI_1 j) (ih (j + 1) (by omega))))
      rw [rs_S_s, f1 j k]
    · refine br_t rfl (nm_r (nI_1 j) ?_)
      have := ih (j + 1) (by omega)
      rw [rs_S_s, f0 j k, Int32.add_zero] at this
      exact this
theorem rs_ysum (post : Int32 → Prop) (x : Int32) (n : Nat) (hn : n ≤ 400) (h p q a hb sb ob f : Nat → Int32)
    (f1 : ∀ i, rs_yp x (h i) (p i) (q i) = true → f i = a i) (f0 : ∀ i, rs_yp x (h i) (p i) (q i) = false → f i = 0)
    (hp : wpY_filter (fun r_2 => (((r_2 = 0 → (post (-1000000))) ∧ (¬ r_2 = 0 → (post (rs_S f n)))))) (nI n, h, p, q, a, hb, sb, ob) x) :
    ∀ d j : Nat, j + d = n → wY_sum_4 post x (nI n) h p q a hb sb ob (d + 1) (rs_S f j) (nI j) := by
  intro d
  induction d with
  | zero =>
    intro j hj
    have hj' : j = n := by omega
    subst hj'
    exact br_t (Int32.le_refl _) hp
  | succ d ih =>
    intro j hj
    have hj' : j < n := by omega
    refine br_f (nI_ge hj' (by omega)) ?_
    refine rs_yps _ x j (by omega) (nI n) h p q a hb sb ob (fun k => ?_) (fun k => ?_)
    · refine br_f rs_n10 ⟨vp_in_nI (by omega) (by omega), nm_r (e' := rs_S f (j + 1)) ?_ (nm_r (nI_1 j) (ih (j + 1) (by omega)))⟩
      rw [nI_clamp (by omega), rs_S_s, f1 j k]
    · refine br_t rfl (nm_r (nI_1 j) ?_)
      have := ih (j + 1) (by omega)
      rw [rs_S_s, f0 j k, Int32.add_zero] at this
      exact this
theorem i_vc_count {k : Nat} {u : SX} {v : SY} (I : i_Rel k u v) (hk : k + 5 ≤ 2560) (v1 : Int32) : wpX_count (fun r => wpY_count (fun r' => r' = r ∧ i_Rel (k + 5) u v) v v1) u v1 := by
  obtain ⟨e, t, c, w, l, g, gc, gs⟩ := u
  obtain ⟨z, h, p, q, a, hb, sb, ob⟩ := v
  have J : i_Rel (k + 5) (e, t, c, w, l, g, gc, gs) (z, h, p, q, a, hb, sb, ob) := I
  obtain ⟨n, S, hn, e1, e2, _, hE, hS⟩ := I
  dsimp only at e1 e2 hE hS
  subst e1 e2
  unfold wpX_count wpY_count
  dsimp only
  rcases rs_ff v1 with ⟨F, hF, rfl⟩ | hf
  · refine rs_xf1 _ hF (br_f rs_n10 ⟨256 + 1, ?_⟩)
    refine rs_xcount _ F hF (nI n) t c w l g gc gs (fun s => if rs_Q c F s = true then c s else 0) (fun s y => rs_f_t y) (fun s y => rs_f_f y) ?_ 256 0 rfl
    refine ⟨n + 1, rs_ycount _ (nI F) n hn h p q a hb sb ob (fun i => if rs_yp (nI F) (h i) (p i) (q i) = true then 1 else 0) (fun s y => rs_f_t y) (fun s y => rs_f_f y) ?_ n 0 (by omega)⟩
    refine rs_yf1 _ hF _ (br_f rs_n10 ⟨?_, J⟩)
    rw [rs_ex hn hE hS (fun _ => 1) c (rs_Vc hS) (rs_p F) (rs_Q c F) (fun s _ => rfl)]
    exact rs_S_congr n (fun i hi => by rw [rs_py hE hF hi])
  · refine rs_xf0 _ hf (br_t rfl ?_)
    refine ⟨n + 1, rs_ycount _ v1 n hn h p q a hb sb ob (fun i => if rs_yp v1 (h i) (p i) (q i) = true then 1 else 0) (fun s y => rs_f_t y) (fun s y => rs_f_f y) ?_ n 0 (by omega)⟩
    exact rs_yf0 _ hf _ (br_t rfl ⟨rfl, J⟩)
theorem i_vc_sum {k : Nat} {u : SX} {v : SY} (I : i_Rel k u v) (hk : k + 5 ≤ 2560) (v1 : Int32) : wpX_sum (fun r => wpY_sum (fun r' => r' = r ∧ i_Rel (k + 5) u v) v v1) u v1 := by
  obtain ⟨e, t, c, w, l, g, gc, gs⟩ := u
  obtain ⟨z, h, p, q, a, hb, sb, ob⟩ := v
  have J : i_Rel (k + 5) (e, t, c, w, l, g, gc, gs) (z, h, p, q, a, hb, sb, ob) := I
  obtain ⟨n, S, hn, e1, e2, _, hE, hS⟩ := I
  dsimp only at e1 e2 hE hS
  subst e1 e2
  unfold wpX_sum wpY_sum
  dsimp only
  rcases rs_ff v1 with ⟨F, hF, rfl⟩ | hf
  · refine rs_xf1 _ hF (br_f rs_n10 ⟨256 + 1, ?_⟩)
    refine rs_xsum _ F hF (nI n) t c w l g gc gs (fun s => if rs_Q c F s = true then w s else 0) (fun s y => rs_f_t y) (fun s y => rs_f_f y) ?_ 256 0 rfl
    refine ⟨n + 1, rs_ysum _ (nI F) n hn h p q a hb sb ob (fun i => if rs_yp (nI F) (h i) (p i) (q i) = true then a i else 0) (fun s y => rs_f_t y) (fun s y => rs_f_f y) ?_ n 0 (by omega)⟩
    refine rs_yf1 _ hF _ (br_f rs_n10 ⟨?_, J⟩)
    rw [rs_ex hn hE hS (fun x => x) w (rs_Vw hS) (rs_p F) (rs_Q c F) (fun s _ => rfl)]
    exact rs_S_congr n (fun i hi => by rw [rs_py hE hF hi])
  · refine rs_xf0 _ hf (br_t rfl ?_)
    refine ⟨n + 1, rs_ysum _ v1 n hn h p q a hb sb ob (fun i => if rs_yp v1 (h i) (p i) (q i) = true then a i else 0) (fun s y => rs_f_t y) (fun s y => rs_f_f y) ?_ n 0 (by omega)⟩
    exact rs_yf0 _ hf _ (br_t rfl ⟨rfl, J⟩)
