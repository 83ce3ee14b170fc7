/-! sortsPassing, sorts -/
def rs_K (P : Nat → Bool) (S : Nat → Nat) : Nat → Nat → Bool
  | 0, _ => false
  | j + 1, s => (P j && decide (S j = s)) || rs_K P S j s
theorem rs_K_s (P : Nat → Bool) (S : Nat → Nat) (j s : Nat) : rs_K P S (j + 1) s = ((P j && decide (S j = s)) || rs_K P S j s) := rfl
theorem rs_K_iff (P : Nat → Bool) (S : Nat → Nat) (n s : Nat) : rs_K P S n s = true ↔ ∃ i, i < n ∧ P i = true ∧ S i = s := by
  induction n with
  | zero => exact ⟨fun y => absurd y Bool.false_ne_true, fun ⟨i, hi, _⟩ => absurd hi (by omega)⟩
  | succ n ih =>
    rw [rs_K_s, Bool.or_eq_true, Bool.and_eq_true, ih]
    constructor
    · rintro (⟨y, y2⟩ | ⟨i, hi, y⟩)
      · exact ⟨n, by omega, y, of_decide_eq_true y2⟩
      · exact ⟨i, by omega, y⟩
    · rintro ⟨i, hi, y1, y2⟩
      by_cases e : i = n
      · subst e; exact Or.inl ⟨y1, decide_eq_true y2⟩
      · exact Or.inr ⟨i, by omega, y1, y2⟩
theorem rs_K_upd (P : Nat → Bool) (S : Nat → Nat) (j s : Nat) : rs_b (rs_K P S (j + 1) s) = upd (fun s => rs_b (rs_K P S j s)) (S j) (rs_b (P j || rs_K P S j (S j))) s := by
  rw [rs_K_s]
  by_cases e : s = S j
  · subst e
    rw [pk_us, decide_eq_true rfl, Bool.and_true]
  · rw [pk_un e, decide_eq_false (fun y => e y.symm), Bool.and_false, Bool.false_or]
theorem rs_K_sum (P : Nat → Bool) (S : Nat → Nat) (j : Nat) (hj : S j < 256) : rs_S (fun s => rs_b (rs_K P S (j + 1) s)) 256 = rs_S (fun s => rs_b (rs_K P S j s)) 256 + (rs_b (P j || rs_K P S j (S j)) - rs_b (rs_K P S j (S j))) := by
  rw [rs_S_congr 256 (fun s _ => rs_K_upd P S j s), rs_S_upd _ _ _ _ hj]
theorem rs_xsp (post : Int32 → Prop) (F : Nat) (hF : F < 262144) (e t : Int32) (c w l g gc gs f : Nat → Int32)
    (f1 : ∀ s, rs_Q c F s = true → f s = 1) (f0 : ∀ s, rs_Q c F s = false → f s = 0) (hp : post (rs_S f 256)) :
    ∀ d j : Nat, j + d = 256 → wX_sortsPassing_13 post (nI F) e t c w l g gc gs (d + 1) (rs_S f j) (nI j) := by
  intro d
  induction d with
  | zero =>
    intro j hj
    have hj' : j = 256 := by omega
    subst hj'
    exact br_t (Int32.le_refl _) hp
  | succ d ih =>
    intro j hj
    have hj' : j < 256 := by omega
    refine br_f (nI_ge (b := 256) hj' (by omega)) ?_
    refine rs_hp _ e t c w l g gc gs j F hj' hF (fun k => ?_) (fun k => ?_)
    · refine br_f rs_n10 (nm_r (e' := rs_S f (j + 1)) ?_ (nm_r (nI_1 j) (ih (j + 1) (by omega))))
      rw [rs_S_s, f1 j k]
    · refine br_t rfl (nm_r (nI_1 j) ?_)
      have := ih (j + 1) (by omega)
      rw [rs_S_s, f0 j k, Int32.add_zero] at this
      exact this
theorem rs_sort_n {h p q : Int32} {s : Nat} (h1 : h = nI (s / 16)) (h2 : p = nI (s / 4 % 4)) (h3 : q = nI (s % 4)) : ((16 * h) + (4 * p)) + q = nI s := by
  subst h1 h2 h3
  have a1 : (16 : Int32) * nI (s / 16) = nI (16 * (s / 16)) := pk_mul 16 _
  have a2 : (4 : Int32) * nI (s / 4 % 4) = nI (4 * (s / 4 % 4)) := pk_mul 4 _
  rw [a1, a2, nI_add, nI_add]
  exact congrArg nI (by omega)
theorem rs_ysort (post : Int32 → Prop) {n : Nat} {S : Nat → Nat} {h p q a : Nat → Int32} (hn : n ≤ 400) (hE : rs_ev n S h p q a) (z : Int32) (hb sb ob : Nat → Int32) {i : Nat} (hi : i < n) (k : post (nI (S i))) : wpY_sort post (z, h, p, q, a, hb, sb, ob) (nI i) := by
  unfold wpY_sort
  dsimp only
  have hv : vp_in (nI i) 400 := vp_in_nI (by omega) (by omega)
  refine ⟨hv, hv, hv, ?_⟩
  obtain ⟨_, _, h1, h2, h3⟩ := hE i hi
  rw [nI_clamp (by omega), rs_sort_n h1 h2 h3]
  exact k
theorem rs_y67 (post : Int32 → SY → Prop) (J : Int32 → Int32 → (Nat → Int32) → (Nat → Int32) → (Nat → Int32) → (Nat → Int32) → (Nat → Int32) → (Nat → Int32) → (Nat → Int32) → Prop) (x : Int32) (j s : Nat) (hj : j < 400) (hs : s < 256) (z0 z : Int32) (h p q a hb sb ob : Nat → Int32)
    (B : Bool) (hB : ob s = rs_b B) (k : J z0 (nI (j + 1)) h p q a hb sb (upd ob s (rs_b (rs_yp x (h j) (p j) (q j) || B)))) : wY_sortsPassing_67 post J x (nI j) (nI s) z0 z h p q a hb sb ob := by
  have hv : vp_in (nI s) 256 := vp_in_nI hs (by omega)
  unfold wY_sortsPassing_67
  refine ⟨hv, ?_⟩
  rw [nI_clamp (n := s) (by omega)]
  cases B
  · rw [Bool.or_false] at k
    refine br_t hB (rs_yps _ x j hj z h p q a hb sb ob (fun y => ?_) (fun y => ?_))
    · rw [y] at k
      exact br_f rs_n10 ⟨hv, nm_r (e' := upd ob s 1) (by rw [rs_nb1]) (nm_r (nI_1 j) k)⟩
    · rw [y] at k
      exact br_t rfl ⟨hv, nm_r (e' := upd ob s 0) (by rw [rs_nb0]) (nm_r (nI_1 j) k)⟩
  · rw [Bool.or_true] at k
    exact br_f (by rw [hB]; exact rs_n10) ⟨hv, nm_r (e' := upd ob s 1) (by rw [rs_nb1]) (nm_r (nI_1 j) k)⟩
theorem rs_y26s (post : Int32 → SY → Prop) (x : Int32) {n : Nat} {S : Nat → Nat} {h p q a : Nat → Int32} (hn : n ≤ 400) (hE : rs_ev n S h p q a) (hb sb : Nat → Int32) (P : Nat → Bool) (hP : ∀ i, rs_yp x (h i) (p i) (q i) = P i)
    (hp : ∀ ob : Nat → Int32, wpY_filter (fun r_3 => (((r_3 = 0 → (post (-1) (nI n, h, p, q, a, hb, sb, ob))) ∧ (¬ r_3 = 0 → (post (rs_S (fun s => rs_b (rs_K P S n s)) 256) (nI n, h, p, q, a, hb, sb, ob)))))) (nI n, h, p, q, a, hb, sb, ob) x) :
    ∀ d j : Nat, j + d = n → ∀ ob : Nat → Int32, (∀ s, s < 256 → ob s = rs_b (rs_K P S j s)) → wY_sortsPassing_26 post x (nI n) (d + 1) (rs_S (fun s => rs_b (rs_K P S j s)) 256) (nI j) h p q a hb sb ob := by
  intro d
  induction d with
  | zero =>
    intro j hj ob I
    have hj' : j = n := by omega
    subst hj'
    exact br_t (Int32.le_refl _) (hp ob)
  | succ d ih =>
    intro j hj ob I
    have hj' : j < n := by omega
    have hs : S j < 256 := (hE j hj').1
    have I' : ∀ s, s < 256 → upd ob (S j) (rs_b (P j || rs_K P S j (S j))) s = rs_b (rs_K P S (j + 1) s) := by
      intro s hs'
      rw [rs_K_upd]
      by_cases y : s = S j
      · rw [y, pk_us, pk_us]
      · rw [pk_un y, pk_un y]; exact I s hs'
    have K := ih (j + 1) (by omega) (upd ob (S j) (rs_b (P j || rs_K P S j (S j)))) I'
    rw [rs_K_sum P S j hs] at K
    refine br_f (nI_ge hj' (by omega)) ?_
    refine rs_ysort _ hn hE (nI n) hb sb ob hj' ?_
    have k0 : rs_S (fun s => rs_b (rs_K P S j s)) 256 + (rs_b (P j || rs_K P S j (S j)) - rs_b (rs_K P S j (S j))) = rs_S (fun s => rs_b (rs_K P S j s)) 256 → wY_sortsPassing_66 post (wY_sortsPassing_26 post x (nI n) (d + 1)) x (rs_S (fun s => rs_b (rs_K P S j s)) 256) (nI j) (nI (S j)) (nI n) h p q a hb sb ob := by
      intro y
      rw [y] at K
      unfold wY_sortsPassing_66
      refine rs_y67 post _ x j (S j) (by omega) hs _ (nI n) h p q a hb sb ob (rs_K P S j (S j)) (I _ hs) ?_
      rw [hP j]
      exact K
    refine rs_yps _ x j (by omega) (nI n) h p q a hb sb ob (fun y => ?_) (fun y => ?_)
    · rw [hP j] at y
      refine br_f rs_n10 ⟨vp_in_nI hs (by omega), ?_⟩
      rw [nI_clamp (n := S j) (by omega), I _ hs]
      cases e : rs_K P S j (S j)
      · refine br_t rfl ?_
        refine rs_y67 post _ x j (S j) (by omega) hs _ (nI n) h p q a hb sb ob (rs_K P S j (S j)) (I _ hs) ?_
        rw [hP j]
        rw [e, y] at K ⊢
        exact K
      · refine br_f rs_n10 (k0 ?_)
        rw [e, Bool.or_true]
        exact (Int32.add_zero _)
    · rw [hP j] at y
      refine br_t rfl (k0 ?_)
      rw [y, Bool.false_or, Int32.sub_self, Int32.add_zero]
theorem rs_y2s (post : Int32 → SY → Prop) (x z : Int32) (h p q a hb sb : Nat → Int32)
    (hp : ∀ ob : Nat → Int32, (∀ s, s < 256 → ob s = 0) → ∃ n26 : Nat, wY_sortsPassing_26 post x z n26 0 0 h p q a hb sb ob) :
    ∀ d j : Nat, j + d = 256 → ∀ ob : Nat → Int32, (∀ s, s < j → ob s = 0) → wY_sortsPassing_2 post x z (d + 1) (nI j) h p q a hb sb ob := by
  intro d
  induction d with
  | zero =>
    intro j hj ob I
    have hj' : j = 256 := by omega
    subst hj'
    exact br_t (Int32.le_refl _) (hp ob I)
  | succ d ih =>
    intro j hj ob I
    have hj' : j < 256 := by omega
    refine br_f (nI_ge (b := 256) hj' (by omega)) ⟨vp_in_nI hj' (by omega), nm_r (e' := upd ob j 0) (by rw [nI_clamp (by omega), rs_nb0]) (nm_r (nI_1 j) (ih (j + 1) (by omega) _ (fun s hs => ?_)))⟩
    by_cases y : s = j
    · rw [y, pk_us]
    · rw [pk_un y]; exact I s (by omega)
theorem rs_ysp (post : Int32 → SY → Prop) (x : Int32) {n : Nat} {S : Nat → Nat} {h p q a : Nat → Int32} (hn : n ≤ 400) (hE : rs_ev n S h p q a) (hb sb ob : Nat → Int32) (P : Nat → Bool) (hP : ∀ i, rs_yp x (h i) (p i) (q i) = P i)
    (hp : ∀ ob : Nat → Int32, wpY_filter (fun r_3 => (((r_3 = 0 → (post (-1) (nI n, h, p, q, a, hb, sb, ob))) ∧ (¬ r_3 = 0 → (post (rs_S (fun s => rs_b (rs_K P S n s)) 256) (nI n, h, p, q, a, hb, sb, ob)))))) (nI n, h, p, q, a, hb, sb, ob) x) :
    wpY_sortsPassing post (nI n, h, p, q, a, hb, sb, ob) x := by
  unfold wpY_sortsPassing
  dsimp only
  refine ⟨256 + 1, rs_y2s post x (nI n) h p q a hb sb (fun ob' I => ⟨n + 1, ?_⟩) 256 0 rfl ob (fun s hs => absurd hs (by omega))⟩
  have K := rs_y26s post x hn hE hb sb P hP hp n 0 (by omega) ob' (fun s hs => I s hs)
  have e0 : rs_S (fun s => rs_b (rs_K P S 0 s)) 256 = 0 := rs_S_zero 256 (fun i _ => rfl)
  rw [e0] at K
  exact K
theorem rs_K_Q {n : Nat} {S : Nat → Nat} {h p q a c w l g : Nat → Int32} (hn : n ≤ 400) (hE : rs_ev n S h p q a) (hS : rs_st n S a c w l g) {F : Nat} (hF : F < 262144) :
    rs_S (fun s => rs_b (rs_K (fun i => rs_yp (nI F) (h i) (p i) (q i)) S n s)) 256 = rs_S (fun s => if rs_Q c F s = true then 1 else 0) 256 := by
  refine rs_S_congr 256 (fun s hs => ?_)
  show rs_b _ = rs_b (rs_Q c F s)
  refine congrArg rs_b (Bool.eq_iff_iff.mpr ?_)
  rw [rs_K_iff]
  unfold rs_Q
  rw [Bool.and_eq_true, decide_eq_true_iff, rs_cp hn hS hs]
  constructor
  · rintro ⟨i, hi, y1, y2⟩
    have y1' : rs_yp (nI F) (h i) (p i) (q i) = true := y1
    rw [rs_py hE hF hi, y2] at y1'
    refine ⟨fun y => ?_, y1'⟩
    have hm : a i ∈ rs_G S a n s := (rs_G_mem S a n s (a i)).mpr ⟨i, hi, y2, rfl⟩
    rw [y] at hm
    cases hm
  · rintro ⟨y1, y2⟩
    obtain ⟨x, hx⟩ := List.exists_mem_of_ne_nil _ y1
    obtain ⟨i, hi, e1, e2⟩ := (rs_G_mem S a n s x).mp hx
    refine ⟨i, hi, ?_, e1⟩
    show rs_yp (nI F) (h i) (p i) (q i) = true
    rw [rs_py hE hF hi, e1]
    exact y2
theorem rs_all : ∀ s, s < 256 → rs_p 246015 s = true := by decide +kernel
theorem rs_ysorts (post : Int32 → SY → Prop) {n : Nat} {S : Nat → Nat} {h p q a c w l g : Nat → Int32} (hn : n ≤ 400) (hE : rs_ev n S h p q a) (hS : rs_st n S a c w l g) (hb sb ob : Nat → Int32)
    (hp : ∀ ob : Nat → Int32, post (rs_S (rs_mk c) 256) (nI n, h, p, q, a, hb, sb, ob)) : wpY_sorts post (nI n, h, p, q, a, hb, sb, ob) := by
  unfold wpY_sorts
  dsimp only
  have e : rs_S (fun s => rs_b (rs_K (fun i => rs_yp (nI 246015) (h i) (p i) (q i)) S n s)) 256 = rs_S (rs_mk c) 256 := by
    rw [rs_K_Q hn hE hS (by omega)]
    refine rs_S_congr 256 (fun s hs => ?_)
    unfold rs_Q rs_mk
    rw [rs_all s hs, Bool.and_true]
    by_cases y : c s ≤ 0
    · rw [if_pos y, decide_eq_false (fun y' => y' y)]; rfl
    · rw [if_neg y, decide_eq_true y]; rfl
  refine rs_ysp _ (nI 246015) hn hE hb sb ob (fun i => rs_yp (nI 246015) (h i) (p i) (q i)) (fun i => rfl) (fun ob' => ?_)
  refine rs_yf1 _ (by omega) _ (br_f rs_n10 ?_)
  rw [e]
  exact hp ob'
theorem i_vc_sorts {k : Nat} {u : SX} {v : SY} (I : i_Rel k u v) (hk : k + 5 ≤ 2560) : wpX_sorts (fun r => wpY_sorts (fun r' v' => r' = r ∧ i_Rel (k + 5) u v') v) u := by
  obtain ⟨e, t, c, w, l, g, gc, gs⟩ := u
  obtain ⟨z, h, p, q, a, hb, sb, ob⟩ := v
  have J : rs_R e t c w l g z h p q a := I
  obtain ⟨n, S, hn, e1, e2, ht, hE, hS⟩ := id J
  subst e1 e2
  unfold wpX_sorts
  dsimp only
  refine rs_ysorts _ hn hE hS hb sb ob (fun ob' => ⟨ht.symm, J⟩)
theorem i_vc_sortsPassing {k : Nat} {u : SX} {v : SY} (I : i_Rel k u v) (hk : k + 5 ≤ 2560) (v1 : Int32) : wpX_sortsPassing (fun r => wpY_sortsPassing (fun r' v' => r' = r ∧ i_Rel (k + 5) u v') v v1) u v1 := by
  obtain ⟨e, t, c, w, l, g, gc, gs⟩ := u
  obtain ⟨z, h, p, q, a, hb, sb, ob⟩ := v
  have J : rs_R e t c w l g z h p q a := I
  obtain ⟨n, S, hn, e1, e2, ht, hE, hS⟩ := id J
  subst e1 e2
  unfold wpX_sortsPassing
  dsimp only
  rcases rs_ff v1 with ⟨F, hF, rfl⟩ | hf
  · refine rs_xf1 _ hF (br_f rs_n10 ⟨256 + 1, ?_⟩)
    refine rs_xsp _ F hF (nI n) t c w l g gc gs (fun s => if rs_Q c F s = true then 1 else 0) (fun s y => rs_f_t y) (fun s y => rs_f_f y) ?_ 256 0 rfl
    refine rs_ysp _ (nI F) hn hE hb sb ob (fun i => rs_yp (nI F) (h i) (p i) (q i)) (fun i => rfl) (fun ob' => ?_)
    exact rs_yf1 _ hF _ (br_f rs_n10 ⟨rs_K_Q hn hE hS hF, J⟩)
  · refine rs_xf0 _ hf (br_t rfl ?_)
    refine rs_ysp _ v1 hn hE hb sb ob (fun i => rs_yp v1 (h i) (p i) (q i)) (fun i => rfl) (fun ob' => ?_)
    exact rs_yf0 _ hf _ (br_t rfl ⟨rfl, J⟩)
