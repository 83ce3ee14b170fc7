/-! least, greatest: le is ≤ or its converse -/
def rs_T0 (n : Nat) (P : Nat → Bool) : Prop := ∀ i, i < n → P i = false
def rs_T1 (le : Int32 → Int32 → Prop) (n : Nat) (P : Nat → Bool) (A : Nat → Int32) (m : Int32) : Prop := (∃ i, i < n ∧ P i = true ∧ A i = m) ∧ ∀ i, i < n → P i = true → le m (A i)
theorem rs_T0_s {n : Nat} {P : Nat → Bool} (h : rs_T0 n P) (k : P n = false) : rs_T0 (n + 1) P := fun i hi => by
  by_cases e : i = n
  · rw [e]; exact k
  · exact h i (by omega)
theorem rs_T1_s {le : Int32 → Int32 → Prop} {n : Nat} {P : Nat → Bool} {A : Nat → Int32} {m : Int32} (h : rs_T1 le n P A m) (k : P n = true → le m (A n)) : rs_T1 le (n + 1) P A m := by
  obtain ⟨⟨i, hi, h1, h2⟩, h3⟩ := h
  refine ⟨⟨i, by omega, h1, h2⟩, fun j hj y => ?_⟩
  by_cases e : j = n
  · subst e; exact k y
  · exact h3 j (by omega) y
theorem rs_T1_0 {le : Int32 → Int32 → Prop} (rf : ∀ x, le x x) {n : Nat} {P : Nat → Bool} {A : Nat → Int32} (h : rs_T0 n P) (k : P n = true) : rs_T1 le (n + 1) P A (A n) := by
  refine ⟨⟨n, by omega, k, rfl⟩, fun j hj y => ?_⟩
  by_cases e : j = n
  · subst e; exact rf _
  · rw [h j (by omega)] at y; exact absurd y Bool.false_ne_true
theorem rs_T1_r {le : Int32 → Int32 → Prop} (rf : ∀ x, le x x) (tt : ∀ x y, ¬ le x y → le y x) (tr : ∀ x y z, le x y → le y z → le x z) {n : Nat} {P : Nat → Bool} {A : Nat → Int32} {m : Int32} (h : rs_T1 le n P A m) (k : P n = true) (q : ¬ le m (A n)) : rs_T1 le (n + 1) P A (A n) := by
  refine ⟨⟨n, by omega, k, rfl⟩, fun j hj y => ?_⟩
  by_cases e : j = n
  · subst e; exact rf _
  · exact tr _ _ _ (tt _ _ q) (h.2 j (by omega) y)
def rs_T (le : Int32 → Int32 → Prop) (n : Nat) (P : Nat → Bool) (A : Nat → Int32) (m : Int32) : Prop := (m = -1000000 ∧ rs_T0 n P) ∨ rs_T1 le n P A m
theorem rs_T_u {le : Int32 → Int32 → Prop} (an : ∀ x y, le x y → le y x → x = y) {n : Nat} {P : Nat → Bool} {A : Nat → Int32} {m m' : Int32} (h : rs_T le n P A m) (h' : rs_T le n P A m') : m' = m := by
  rcases h with ⟨e, h0⟩ | ⟨⟨i, hi, h1, h2⟩, h3⟩
  · rcases h' with ⟨e', _⟩ | ⟨⟨i, hi, h1, h2⟩, h3⟩
    · rw [e, e']
    · rw [h0 i hi] at h1; exact absurd h1 Bool.false_ne_true
  · rcases h' with ⟨e', h0⟩ | ⟨⟨i', hi', h1', h2'⟩, h3'⟩
    · rw [h0 i hi] at h1; exact absurd h1 Bool.false_ne_true
    · refine an _ _ ?_ ?_
      · rw [← h2]; exact h3' i hi h1
      · rw [← h2']; exact h3 i' hi' h1'
/-- from the sorts to the events -/
theorem rs_T_xy {le : Int32 → Int32 → Prop} (tr : ∀ x y z, le x y → le y z → le x z) {n : Nat} {S : Nat → Nat} {h p q a c w l g : Nat → Int32} (hn : n ≤ 400) (hE : rs_ev n S h p q a) (hS : rs_st n S a c w l g)
    {F : Nat} (hF : F < 262144) (L : Nat → Int32) (hL : ∀ s, s < 256 → rs_G S a n s ≠ [] → L s ∈ rs_G S a n s ∧ ∀ x, x ∈ rs_G S a n s → le (L s) x) {m : Int32}
    (k : rs_T le 256 (rs_Q c F) L m) : rs_T le n (fun i => rs_yp (nI F) (h i) (p i) (q i)) a m := by
  have hQ : ∀ i, i < n → rs_p F (S i) = true → rs_Q c F (S i) = true ∧ a i ∈ rs_G S a n (S i) := by
    intro i hi y
    have hm : a i ∈ rs_G S a n (S i) := (rs_G_mem S a n (S i) (a i)).mpr ⟨i, hi, rfl, rfl⟩
    refine ⟨?_, hm⟩
    unfold rs_Q
    rw [y, Bool.and_true]
    refine decide_eq_true (fun y => ?_)
    rw [(rs_cp hn hS (hE i hi).1).mp y] at hm
    cases hm
  rcases k with ⟨e, h0⟩ | ⟨⟨s, hs, h1, h2⟩, h3⟩
  · refine Or.inl ⟨e, fun i hi => ?_⟩
    show rs_yp (nI F) (h i) (p i) (q i) = false
    rw [rs_py hE hF hi]
    refine rs_bt (fun y => ?_)
    have := (hQ i hi y).1
    rw [h0 (S i) (hE i hi).1] at this
    exact Bool.false_ne_true this
  · refine Or.inr ⟨?_, fun i hi y => ?_⟩
    · unfold rs_Q at h1
      rw [Bool.and_eq_true] at h1
      have hne : rs_G S a n s ≠ [] := fun y => (of_decide_eq_true h1.1) ((rs_cp hn hS hs).mpr y)
      obtain ⟨i, hi, e1, e2⟩ := (rs_G_mem S a n s (L s)).mp (hL s hs hne).1
      refine ⟨i, hi, ?_, e2.trans h2⟩
      show rs_yp (nI F) (h i) (p i) (q i) = true
      rw [rs_py hE hF hi, e1]
      exact h1.2
    · have y' : rs_yp (nI F) (h i) (p i) (q i) = true := y
      rw [rs_py hE hF hi] at y'
      obtain ⟨q1, q2⟩ := hQ i hi y'
      have hs := (hE i hi).1
      refine tr _ _ _ (h3 (S i) hs q1) ((hL (S i) hs (fun z => ?_)).2 _ q2)
      rw [z] at q2
      cases q2
theorem rs_le_r (x : Int32) : x ≤ x := Int32.le_refl x
theorem rs_le_t (x y : Int32) (h : ¬ x ≤ y) : y ≤ x := Int32.le_of_lt (Int32.not_le.mp h)
theorem rs_le_tr (x y z : Int32) (h : x ≤ y) (k : y ≤ z) : x ≤ z := Int32.le_trans h k
theorem rs_le_a (x y : Int32) (h : x ≤ y) (k : y ≤ x) : x = y := Int32.le_antisymm h k
def rs_lo1 (x y : Int32) : Prop := x ≤ y
def rs_hi1 (x y : Int32) : Prop := y ≤ x
def rs_I (le : Int32 → Int32 → Prop) (P : Nat → Bool) (A : Nat → Int32) (j : Nat) (x2 x3 : Int32) : Prop := (x2 = 0 ∧ x3 = -1000000 ∧ rs_T0 j P) ∨ (x2 = 1 ∧ rs_T1 le j P A x3)
theorem rs_xleast (post : Int32 → Prop) (F : Nat) (hF : F < 262144) (e t : Int32) (c w l g gc gs : Nat → Int32)
    (hp : ∀ m, rs_T rs_lo1 256 (rs_Q c F) l m → post m) :
    ∀ d j : Nat, j + d = 256 → ∀ x2 x3 : Int32, rs_I rs_lo1 (rs_Q c F) l j x2 x3 → wX_least_18 post (nI F) e t c w l g gc gs (d + 1) x2 x3 (nI j) := by
  intro d
  induction d with
  | zero =>
    intro j hj x2 x3 I
    have hj' : j = 256 := by omega
    subst hj'
    refine br_t (Int32.le_refl _) (hp x3 ?_)
    rcases I with ⟨_, h⟩ | ⟨_, h⟩
    · exact Or.inl h
    · exact Or.inr h
  | succ d ih =>
    intro j hj x2 x3 I
    have hj' : j < 256 := by omega
    refine br_f (nI_ge (b := 256) hj' (by omega)) ?_
    refine rs_hp _ e t c w l g gc gs j F hj' hF (fun k => ?_) (fun k => ?_)
    · have N : rs_T1 rs_lo1 (j + 1) (rs_Q c F) l (l j) → wX_least_51 post (wX_least_18 post (nI F) e t c w l g gc gs (d + 1)) (nI F) (nI j) e t c w l g gc gs := fun T =>
        ⟨vp_in_nI hj' (by omega), nm_r (e' := l j) (by rw [nI_clamp (by omega)]) (nm_r (nI_1 j) (ih (j + 1) (by omega) 1 (l j) (Or.inr ⟨rfl, T⟩)))⟩
      refine br_f rs_n10 ?_
      rcases I with ⟨e2, e3, T⟩ | ⟨e2, T⟩
      · exact br_t e2 (N (rs_T1_0 rs_le_r T k))
      · refine br_f (by rw [e2]; exact rs_n10) ⟨vp_in_nI hj' (by omega), ?_⟩
        rw [nI_clamp (by omega)]
        exact br_c (fun y => nm_r (nI_1 j) (ih (j + 1) (by omega) x2 x3 (Or.inr ⟨e2, rs_T1_s T (fun _ => y)⟩))) (fun y => N (rs_T1_r rs_le_r rs_le_t rs_le_tr T k y))
    · refine br_t rfl (nm_r (nI_1 j) (ih (j + 1) (by omega) x2 x3 ?_))
      rcases I with ⟨e2, e3, T⟩ | ⟨e2, T⟩
      · exact Or.inl ⟨e2, e3, rs_T0_s T k⟩
      · exact Or.inr ⟨e2, rs_T1_s T (fun y => by rw [k] at y; exact absurd y Bool.false_ne_true)⟩
theorem rs_xgreatest (post : Int32 → Prop) (F : Nat) (hF : F < 262144) (e t : Int32) (c w l g gc gs : Nat → Int32)
    (hp : ∀ m, rs_T rs_hi1 256 (rs_Q c F) g m → post m) :
    ∀ d j : Nat, j + d = 256 → ∀ x2 x3 : Int32, rs_I rs_hi1 (rs_Q c F) g j x2 x3 → wX_greatest_18 post (nI F) e t c w l g gc gs (d + 1) x2 x3 (nI j) := by
  intro d
  induction d with
  | zero =>
    intro j hj x2 x3 I
    have hj' : j = 256 := by omega
    subst hj'
    refine br_t (Int32.le_refl _) (hp x3 ?_)
    rcases I with ⟨_, h⟩ | ⟨_, h⟩
    · exact Or.inl h
    · exact Or.inr h
  | succ d ih =>
    intro j hj x2 x3 I
    have hj' : j < 256 := by omega
    refine br_f (nI_ge (b := 256) hj' (by omega)) ?_
    refine rs_hp _ e t c w l g gc gs j F hj' hF (fun k => ?_) (fun k => ?_)
    · have N : rs_T1 rs_hi1 (j + 1) (rs_Q c F) g (g j) → wX_greatest_51 post (wX_greatest_18 post (nI F) e t c w l g gc gs (d + 1)) (nI F) (nI j) e t c w l g gc gs := fun T =>
        ⟨vp_in_nI hj' (by omega), nm_r (e' := g j) (by rw [nI_clamp (by omega)]) (nm_r (nI_1 j) (ih (j + 1) (by omega) 1 (g j) (Or.inr ⟨rfl, T⟩)))⟩
      refine br_f rs_n10 ?_
      rcases I with ⟨e2, e3, T⟩ | ⟨e2, T⟩
      · exact br_t e2 (N (rs_T1_0 (le := rs_hi1) rs_le_r T k))
      · refine br_f (by rw [e2]; exact rs_n10) ⟨vp_in_nI hj' (by omega), ?_⟩
        rw [nI_clamp (by omega)]
        exact br_c (fun y => nm_r (nI_1 j) (ih (j + 1) (by omega) x2 x3 (Or.inr ⟨e2, rs_T1_s T (fun _ => y)⟩))) (fun y => N (rs_T1_r (le := rs_hi1) rs_le_r (fun x y => rs_le_t y x) (fun x y z h k => rs_le_tr z y x k h) T k y))
    · refine br_t rfl (nm_r (nI_1 j) (ih (j + 1) (by omega) x2 x3 ?_))
      rcases I with ⟨e2, e3, T⟩ | ⟨e2, T⟩
      · exact Or.inl ⟨e2, e3, rs_T0_s T k⟩
      · exact Or.inr ⟨e2, rs_T1_s T (fun y => by rw [k] at y; exact absurd y Bool.false_ne_true)⟩
theorem rs_none {x : Int32} (h : -100 ≤ x) : ¬ x ≤ -1000000 := fun k => absurd (Int32.le_trans h k) (by decide +kernel)
theorem rs_yleast (post : Int32 → Prop) (F n : Nat) (hF : F < 262144) (hn : n ≤ 400) (h p q a hb sb ob : Nat → Int32) (ha : ∀ i, i < n → -100 ≤ a i)
    (hp : ∀ m, rs_T rs_lo1 n (fun i => rs_yp (nI F) (h i) (p i) (q i)) a m → post m) :
    ∀ d j : Nat, j + d = n → ∀ x2 : Int32, rs_T rs_lo1 j (fun i => rs_yp (nI F) (h i) (p i) (q i)) a x2 → wY_least_5 post (nI F) (nI n) h p q a hb sb ob (d + 1) x2 (nI j) := by
  intro d
  induction d with
  | zero =>
    intro j hj x2 I
    have hj' : j = n := by omega
    subst hj'
    exact br_t (Int32.le_refl _) (hp x2 I)
  | succ d ih =>
    intro j hj x2 I
    have hj' : j < n := by omega
    refine br_f (nI_ge hj' (by omega)) ?_
    refine rs_yf1 _ hF _ (br_f rs_n10 ?_)
    refine rs_yps _ (nI F) j (by omega) (nI n) h p q a hb sb ob (fun k => ?_) (fun k => ?_)
    · have N : rs_T1 rs_lo1 (j + 1) (fun i => rs_yp (nI F) (h i) (p i) (q i)) a (a j) → wY_least_46 post (wY_least_5 post (nI F) (nI n) h p q a hb sb ob (d + 1)) (nI F) (nI j) (nI n) h p q a hb sb ob := fun T =>
        ⟨vp_in_nI (by omega) (by omega), nm_r (e' := a j) (by rw [nI_clamp (by omega)]) (nm_r (nI_1 j) (ih (j + 1) (by omega) (a j) (Or.inr T)))⟩
      refine br_f rs_n10 ?_
      rcases I with ⟨e2, T⟩ | T
      · exact br_t e2 (N (rs_T1_0 rs_le_r T k))
      · obtain ⟨i, hi, _, e4⟩ := T.1
        refine br_f (fun y => rs_none (ha i (by omega)) (by rw [e4, y]; exact Int32.le_refl _)) ⟨vp_in_nI (by omega) (by omega), ?_⟩
        rw [nI_clamp (by omega)]
        exact br_c (fun y => nm_r (nI_1 j) (ih (j + 1) (by omega) x2 (Or.inr (rs_T1_s T (fun _ => y))))) (fun y => N (rs_T1_r rs_le_r rs_le_t rs_le_tr T k y))
    · refine br_t rfl (nm_r (nI_1 j) (ih (j + 1) (by omega) x2 ?_))
      rcases I with ⟨e2, T⟩ | T
      · exact Or.inl ⟨e2, rs_T0_s T k⟩
      · exact Or.inr (rs_T1_s T (fun y => absurd (k.symm.trans y) Bool.false_ne_true))
theorem rs_ygreatest (post : Int32 → Prop) (F n : Nat) (hF : F < 262144) (hn : n ≤ 400) (h p q a hb sb ob : Nat → Int32) (ha : ∀ i, i < n → -100 ≤ a i)
    (hp : ∀ m, rs_T rs_hi1 n (fun i => rs_yp (nI F) (h i) (p i) (q i)) a m → post m) :
    ∀ d j : Nat, j + d = n → ∀ x2 : Int32, rs_T rs_hi1 j (fun i => rs_yp (nI F) (h i) (p i) (q i)) a x2 → wY_greatest_5 post (nI F) (nI n) h p q a hb sb ob (d + 1) x2 (nI j) := by
  intro d
  induction d with
  | zero =>
    intro j hj x2 I
    have hj' : j = n := by omega
    subst hj'
    exact br_t (Int32.le_refl _) (hp x2 I)
  | succ d ih =>
    intro j hj x2 I
    have hj' : j < n := by omega
    refine br_f (nI_ge hj' (by omega)) ?_
    refine rs_yf1 _ hF _ (br_f rs_n10 ?_)
    refine rs_yps _ (nI F) j (by omega) (nI n) h p q a hb sb ob (fun k => ?_) (fun k => ?_)
    · refine br_f rs_n10 ⟨vp_in_nI (by omega) (by omega), ?_⟩
      rw [nI_clamp (by omega)]
      refine br_c (fun y => nm_r (nI_1 j) (ih (j + 1) (by omega) x2 ?_)) (fun y => ⟨vp_in_nI (by omega) (by omega), nm_e (nm_r (nI_1 j) (ih (j + 1) (by omega) (a j) ?_))⟩)
      · rcases I with ⟨e2, T⟩ | T
        · rw [e2] at y
          exact absurd y (rs_none (ha j hj'))
        · exact Or.inr (rs_T1_s T (fun _ => y))
      · rcases I with ⟨e2, T⟩ | T
        · exact Or.inr (rs_T1_0 (le := rs_hi1) rs_le_r T k)
        · exact Or.inr (rs_T1_r (le := rs_hi1) rs_le_r (fun x y => rs_le_t y x) (fun x y z h k => rs_le_tr z y x k h) T k y)
    · refine br_t rfl (nm_r (nI_1 j) (ih (j + 1) (by omega) x2 ?_))
      rcases I with ⟨e2, T⟩ | T
      · exact Or.inl ⟨e2, rs_T0_s T k⟩
      · exact Or.inr (rs_T1_s T (fun y => absurd (k.symm.trans y) Bool.false_ne_true))
theorem i_vc_least {k : Nat} {u : SX} {v : SY} (I : i_Rel k u v) (hk : k + 5 ≤ 2560) (v1 : Int32) : wpX_least (fun r => wpY_least (fun r' => r' = r ∧ i_Rel (k + 5) u v) v v1) u v1 := by
  obtain ⟨e, t, c, w, l, g, gc, gs⟩ := u
  obtain ⟨z, h, p, q, a, hb, sb, ob⟩ := v
  have J : i_Rel (k + 5) (e, t, c, w, l, g, gc, gs) (z, h, p, q, a, hb, sb, ob) := I
  obtain ⟨n, S, hn, e1, e2, _, hE, hS⟩ := I
  dsimp only at e1 e2 hE hS
  subst e1 e2
  unfold wpX_least wpY_least
  dsimp only
  rcases rs_ff v1 with ⟨F, hF, rfl⟩ | hf
  · refine rs_xf1 _ hF (br_f rs_n10 ⟨256 + 1, ?_⟩)
    refine rs_xleast _ F hF (nI n) t c w l g gc gs (fun m T => ?_) 256 0 rfl 0 (-1000000) (Or.inl ⟨rfl, rfl, fun i hi => absurd hi (by omega)⟩)
    refine ⟨n + 1, rs_yleast _ F n hF hn h p q a hb sb ob (fun i hi => (hE i hi).2.1.1) (fun m' T' => ⟨?_, J⟩) n 0 (by omega) (-1000000) (Or.inl ⟨rfl, fun i hi => absurd hi (by omega)⟩)⟩
    exact rs_T_u rs_le_a (rs_T_xy rs_le_tr hn hE hS hF l (fun s hs y => ((hS s hs).2 y).2.1) T) T'
  · refine rs_xf0 _ hf (br_t rfl ⟨1, br_c (fun _ => ⟨rfl, J⟩) (fun _ => ?_)⟩)
    exact rs_yf0 _ hf _ (br_t rfl ⟨rfl, J⟩)
theorem i_vc_greatest {k : Nat} {u : SX} {v : SY} (I : i_Rel k u v) (hk : k + 5 ≤ 2560) (v1 : Int32) : wpX_greatest (fun r => wpY_greatest (fun r' => r' = r ∧ i_Rel (k + 5) u v) v v1) u v1 := by
  obtain ⟨e, t, c, w, l, g, gc, gs⟩ := u
  obtain ⟨z, h, p, q, a, hb, sb, ob⟩ := v
  have J : i_Rel (k + 5) (e, t, c, w, l, g, gc, gs) (z, h, p, q, a, hb, sb, ob) := I
  obtain ⟨n, S, hn, e1, e2, _, hE, hS⟩ := I
  dsimp only at e1 e2 hE hS
  subst e1 e2
  unfold wpX_greatest wpY_greatest
  dsimp only
  rcases rs_ff v1 with ⟨F, hF, rfl⟩ | hf
  · refine rs_xf1 _ hF (br_f rs_n10 ⟨256 + 1, ?_⟩)
    refine rs_xgreatest _ F hF (nI n) t c w l g gc gs (fun m T => ?_) 256 0 rfl 0 (-1000000) (Or.inl ⟨rfl, rfl, fun i hi => absurd hi (by omega)⟩)
    refine ⟨n + 1, rs_ygreatest _ F n hF hn h p q a hb sb ob (fun i hi => (hE i hi).2.1.1) (fun m' T' => ⟨?_, J⟩) n 0 (by omega) (-1000000) (Or.inl ⟨rfl, fun i hi => absurd hi (by omega)⟩)⟩
    exact rs_T_u (fun x y h k => rs_le_a x y k h) (rs_T_xy (fun x y z h k => rs_le_tr z y x k h) hn hE hS hF g (fun s hs y => ((hS s hs).2 y).2.2) T) T'
  · refine rs_xf0 _ hf (br_t rfl ⟨1, br_c (fun _ => ⟨rfl, J⟩) (fun _ => ?_)⟩)
    exact rs_yf0 _ hf _ (br_t rfl ⟨rfl, J⟩)
