/-! take -/
def rs_evb (p0 p1 p2 p3 : Int32) : Prop := p0 < 0 ∨ 63 < p0 ∨ p1 < 0 ∨ 3 < p1 ∨ p2 < 0 ∨ 3 < p2 ∨ p3 < (-100) ∨ 100 < p3
theorem rs_evg {p0 p1 p2 p3 : Int32} (h : ¬ rs_evb p0 p1 p2 p3) : ¬ p0 < 0 ∧ ¬ 63 < p0 ∧ ¬ p1 < 0 ∧ ¬ 3 < p1 ∧ ¬ p2 < 0 ∧ ¬ 3 < p2 ∧ ¬ p3 < (-100) ∧ ¬ 100 < p3 :=
  ⟨fun y => h (Or.inl y), fun y => h (Or.inr (Or.inl y)), fun y => h (Or.inr (Or.inr (Or.inl y))), fun y => h (Or.inr (Or.inr (Or.inr (Or.inl y)))), fun y => h (Or.inr (Or.inr (Or.inr (Or.inr (Or.inl y))))),
   fun y => h (Or.inr (Or.inr (Or.inr (Or.inr (Or.inr (Or.inl y)))))), fun y => h (Or.inr (Or.inr (Or.inr (Or.inr (Or.inr (Or.inr (Or.inl y))))))), fun y => h (Or.inr (Or.inr (Or.inr (Or.inr (Or.inr (Or.inr (Or.inr y))))))) ⟩
theorem rs_ev8 {p0 p1 p2 p3 : Int32} (h : rs_evb p0 p1 p2 p3) (y0 : ¬ p0 < 0) (y1 : ¬ 63 < p0) (y2 : ¬ p1 < 0) (y3 : ¬ 3 < p1) (y4 : ¬ p2 < 0) (y5 : ¬ 3 < p2) (y6 : ¬ p3 < (-100)) (y7 : ¬ 100 < p3) : False := by
  rcases h with h | h | h | h | h | h | h | h
  · exact y0 h
  · exact y1 h
  · exact y2 h
  · exact y3 h
  · exact y4 h
  · exact y5 h
  · exact y6 h
  · exact y7 h
theorem rs_xe0 (post : Int32 → Prop) {p0 p1 p2 p3 : Int32} (h : rs_evb p0 p1 p2 p3) (k : post 0) : wpX_isEvent post p0 p1 p2 p3 := by
  unfold wpX_isEvent
  exact br_c (fun _ => k) (fun y0 => br_c (fun _ => k) (fun y1 => br_c (fun _ => k) (fun y2 => br_c (fun _ => k) (fun y3 => br_c (fun _ => k) (fun y4 => br_c (fun _ => k) (fun y5 => br_c (fun _ => k) (fun y6 => br_c (fun _ => k) (fun y7 => (rs_ev8 h y0 y1 y2 y3 y4 y5 y6 y7).elim))))))))
theorem rs_xe1 (post : Int32 → Prop) {p0 p1 p2 p3 : Int32} (h : ¬ rs_evb p0 p1 p2 p3) (k : post 1) : wpX_isEvent post p0 p1 p2 p3 := by
  obtain ⟨y0, y1, y2, y3, y4, y5, y6, y7⟩ := rs_evg h
  unfold wpX_isEvent
  exact br_f y0 (br_f y1 (br_f y2 (br_f y3 (br_f y4 (br_f y5 (br_f y6 (br_f y7 k)))))))
theorem rs_yt0 (post : Int32 → SY → Prop) {p0 p1 p2 p3 : Int32} (hv : rs_evb p0 p1 p2 p3) (z : Int32) (h p q a hb sb ob : Nat → Int32) (k : post (-1) (z, h, p, q, a, hb, sb, ob)) : wpY_take post (z, h, p, q, a, hb, sb, ob) p0 p1 p2 p3 := by
  unfold wpY_take
  dsimp only
  exact br_c (fun _ => k) (fun y0 => br_c (fun _ => k) (fun y1 => br_c (fun _ => k) (fun y2 => br_c (fun _ => k) (fun y3 => br_c (fun _ => k) (fun y4 => br_c (fun _ => k) (fun y5 => br_c (fun _ => k) (fun y6 => br_c (fun y7 => (rs_ev8 hv y0 y1 y2 y3 y4 y5 y6 (Int32.not_lt.mpr y7)).elim) (fun _ => k))))))))
theorem rs_evn {p0 p1 p2 p3 : Int32} (h : ¬ rs_evb p0 p1 p2 p3) : ∃ T P K : Nat, T < 64 ∧ P < 4 ∧ K < 4 ∧ p0 = nI T ∧ p1 = nI P ∧ p2 = nI K ∧ (-100 ≤ p3 ∧ p3 ≤ 100) := by
  obtain ⟨y0, y1, y2, y3, y4, y5, y6, y7⟩ := rs_evg h
  obtain ⟨T, hT, eT⟩ := nI_of2 (n := 63) (by decide +kernel) y0 (Int32.not_lt.mp y1)
  obtain ⟨P, hP, eP⟩ := nI_of2 (n := 3) (by decide +kernel) y2 (Int32.not_lt.mp y3)
  obtain ⟨K, hK, eK⟩ := nI_of2 (n := 3) (by decide +kernel) y4 (Int32.not_lt.mp y5)
  exact ⟨T, P, K, by omega, by omega, by omega, eT, eP, eK, Int32.not_lt.mp y6, Int32.not_lt.mp y7⟩
/-- X adds -/
theorem rs_x87 (post : SX → Prop) (s : Nat) (hs : s < 256) (x e t : Int32) (c w l g gc gs : Nat → Int32)
    (hp : ∀ g' : Nat → Int32, (∀ j, j ≠ s → g' j = g j) → (x ≤ g s ∧ g' s = g s ∨ ¬ x ≤ g s ∧ g' s = x) → post (e, t, c, w, l, g', gc, gs)) : wX_addToSort_87 post (nI s) x e t c w l g gc gs := by
  have hv : vp_in (nI s) 256 := vp_in_nI hs (by omega)
  unfold wX_addToSort_87
  rw [nI_clamp (n := s) (by omega)]
  exact ⟨hv, br_c (fun y => hp g (fun _ _ => rfl) (Or.inl ⟨y, rfl⟩)) (fun y => ⟨hv, nm_e (hp _ (fun j hj => pk_un hj) (Or.inr ⟨y, pk_us⟩))⟩)⟩
theorem rs_x40 (post : SX → Prop) (s : Nat) (hs : s < 256) (x e t : Int32) (c w l g gc gs : Nat → Int32)
    (hp : ∀ l' g' : Nat → Int32, (∀ j, j ≠ s → l' j = l j) → (l s ≤ x ∧ l' s = l s ∨ ¬ l s ≤ x ∧ l' s = x) → (∀ j, j ≠ s → g' j = g j) → (x ≤ g s ∧ g' s = g s ∨ ¬ x ≤ g s ∧ g' s = x) → post (e + 1, t, upd c s (c s + 1), upd w s (w s + x), l', g', gc, gs)) : wX_addToSort_40 post (nI s) x e t c w l g gc gs := by
  have hv : vp_in (nI s) 256 := vp_in_nI hs (by omega)
  unfold wX_addToSort_40
  rw [nI_clamp (n := s) (by omega)]
  refine nm_e ⟨hv, hv, nm_e ⟨hv, hv, nm_e ⟨hv, br_c (fun y => ?_) (fun y => ⟨hv, nm_e ?_⟩)⟩⟩⟩
  · exact rs_x87 post s hs x _ _ _ _ _ _ _ _ (fun g' h1 h2 => hp l g' (fun _ _ => rfl) (Or.inl ⟨y, rfl⟩) h1 h2)
  · exact rs_x87 post s hs x _ _ _ _ _ _ _ _ (fun g' h1 h2 => hp _ g' (fun j hj => pk_un hj) (Or.inr ⟨y, pk_us⟩) h1 h2)
def rs_ad (s : Nat) (x t : Int32) (c w l g : Nat → Int32) (t' : Int32) (w' l' g' : Nat → Int32) : Prop :=
  (c s = 0 → t' = t + 1 ∧ w' s = x ∧ l' s = x ∧ g' s = x) ∧ (¬ c s = 0 → t' = t ∧ w' s = w s + x ∧ (l s ≤ x ∧ l' s = l s ∨ ¬ l s ≤ x ∧ l' s = x) ∧ (x ≤ g s ∧ g' s = g s ∨ ¬ x ≤ g s ∧ g' s = x)) ∧ ∀ j, j ≠ s → w' j = w j ∧ l' j = l j ∧ g' j = g j
theorem rs_xadd (post : SX → Prop) (s : Nat) (hs : s < 256) (x e t : Int32) (c w l g gc gs : Nat → Int32)
    (hp : ∀ (t' : Int32) (w' l' g' : Nat → Int32), rs_ad s x t c w l g t' w' l' g' → post (e + 1, t', upd c s (c s + 1), w', l', g', gc, gs)) : wpX_addToSort post (e, t, c, w, l, g, gc, gs) (nI s) x := by
  have hv : vp_in (nI s) 256 := vp_in_nI hs (by omega)
  unfold wpX_addToSort
  dsimp only
  rw [nI_clamp (n := s) (by omega)]
  refine ⟨hv, br_c (fun y => nm_e ⟨hv, nm_e ⟨hv, nm_e ⟨hv, nm_e ?_⟩⟩⟩) (fun y => ?_)⟩
  · refine rs_x40 post s hs x e (t + 1) c (upd w s 0) (upd l s x) (upd g s x) gc gs (fun l' g' h1 h2 h3 h4 => hp _ _ _ _ ⟨fun _ => ⟨rfl, ?_, ?_, ?_⟩, fun n => absurd y n, fun j hj => ⟨?_, ?_, ?_⟩⟩)
    · rw [pk_us, pk_us, Int32.zero_add]
    · rcases h2 with ⟨_, h2⟩ | ⟨_, h2⟩
      · rw [h2, pk_us]
      · exact h2
    · rcases h4 with ⟨_, h4⟩ | ⟨_, h4⟩
      · rw [h4, pk_us]
      · exact h4
    · rw [pk_un hj, pk_un hj]
    · rw [h1 j hj, pk_un hj]
    · rw [h3 j hj, pk_un hj]
  · exact rs_x40 post s hs x e t c w l g gc gs (fun l' g' h1 h2 h3 h4 => hp _ _ _ _ ⟨fun n => absurd n y, fun _ => ⟨rfl, pk_us, h2, h4⟩, fun j hj => ⟨pk_un hj, h1 j hj, h3 j hj⟩⟩)
/-- the picture grows by one event -/
theorem rs_c0 {n : Nat} {S : Nat → Nat} {a c w l g : Nat → Int32} (hn : n ≤ 400) (hS : rs_st n S a c w l g) {s : Nat} (hs : s < 256) : c s = 0 ↔ rs_G S a n s = [] := by
  have hl := rs_G_len S a n s
  rw [(hS s hs).1, ← List.length_eq_zero_iff]
  exact nI_eq (b := 0) (by omega) (by omega)
theorem rs_G_add (S : Nat → Nat) (a : Nat → Int32) (n s : Nat) (x : Int32) (j : Nat) : rs_G (fun i => if i = n then s else S i) (upd a n x) (n + 1) j = if s = j then x :: rs_G S a n j else rs_G S a n j := by
  rw [rs_G_s, rs_G_congr (S' := S) (A' := a) n (fun i hi => ⟨if_neg (by omega), pk_un (by omega)⟩), pk_us, if_pos rfl]
theorem rs_ev_add {n : Nat} {S : Nat → Nat} {h p q a : Nat → Int32} (hE : rs_ev n S h p q a) {s : Nat} (hs : s < 256) {x : Int32} (hx : -100 ≤ x ∧ x ≤ 100) {h1 p1 q1 : Int32} (e1 : h1 = nI (s / 16)) (e2 : p1 = nI (s / 4 % 4)) (e3 : q1 = nI (s % 4)) :
    rs_ev (n + 1) (fun i => if i = n then s else S i) (upd h n h1) (upd p n p1) (upd q n q1) (upd a n x) := by
  intro i hi
  by_cases y : i = n
  · subst y
    dsimp only
    rw [if_pos rfl, pk_us, pk_us, pk_us, pk_us]
    exact ⟨hs, hx, e1, e2, e3⟩
  · dsimp only
    rw [if_neg y, pk_un y, pk_un y, pk_un y, pk_un y]
    exact hE i (by omega)
theorem rs_st_add {n : Nat} {S : Nat → Nat} {a c w l g : Nat → Int32} (hn : n ≤ 400) (hS : rs_st n S a c w l g) {s : Nat} (hs : s < 256) {x t t' : Int32} {w' l' g' : Nat → Int32} (k : rs_ad s x t c w l g t' w' l' g') :
    rs_st (n + 1) (fun i => if i = n then s else S i) (upd a n x) (upd c s (c s + 1)) w' l' g' := by
  obtain ⟨k1, k2, k3⟩ := k
  intro j hj
  rw [rs_G_add]
  by_cases y : s = j
  · subst y
    rw [if_pos rfl, pk_us, List.length_cons, ← nI_1, ← (hS s hs).1]
    refine ⟨rfl, fun _ => ?_⟩
    by_cases z : c s = 0
    · rw [(rs_c0 hn hS hs).mp z, (k1 z).2.1, (k1 z).2.2.1, (k1 z).2.2.2]
      exact ⟨(Int32.zero_add x).symm, rs_Mn_1 x, rs_Mx_1 x⟩
    · obtain ⟨_, k4, k5, k6⟩ := k2 z
      obtain ⟨m1, m2, m3⟩ := (hS s hs).2 (fun y => z ((rs_c0 hn hS hs).mpr y))
      refine ⟨by rw [k4, m1]; rfl, ?_, ?_⟩
      · rcases k5 with ⟨y1, y2⟩ | ⟨y1, y2⟩
        · rw [y2]; exact rs_Mn_hi m2 (Int32.not_lt.mpr y1)
        · rw [y2]; exact rs_Mn_lo m2 (Int32.not_le.mp y1)
      · rcases k6 with ⟨y1, y2⟩ | ⟨y1, y2⟩
        · rw [y2]; exact rs_Mx_lo m3 (Int32.not_lt.mpr y1)
        · rw [y2]; exact rs_Mx_hi m3 (Int32.not_le.mp y1)
  · have y' : j ≠ s := fun z => y z.symm
    rw [if_neg y, pk_un y', (k3 j y').1, (k3 j y').2.1, (k3 j y').2.2]
    exact hS j hj
theorem rs_mk_upd (c : Nat → Int32) (s : Nat) (v : Int32) (n : Nat) (hs : s < n) : rs_S (rs_mk (upd c s v)) n = rs_S (rs_mk c) n + ((if v ≤ 0 then 0 else 1) - rs_mk c s) := by
  rw [← rs_S_upd _ _ _ _ hs]
  refine rs_S_congr n (fun i _ => ?_)
  by_cases y : i = s
  · subst y
    rw [pk_us]
    unfold rs_mk
    rw [pk_us]
  · rw [pk_un y]
    unfold rs_mk
    rw [pk_un y]
theorem rs_t_add {n : Nat} {S : Nat → Nat} {a c w l g : Nat → Int32} (hn : n ≤ 400) (hS : rs_st n S a c w l g) {s : Nat} (hs : s < 256) {x t t' : Int32} {w' l' g' : Nat → Int32} (ht : t = rs_S (rs_mk c) 256) (k : rs_ad s x t c w l g t' w' l' g') :
    t' = rs_S (rs_mk (upd c s (c s + 1))) 256 := by
  have hl := rs_G_len S a n s
  have hc := (hS s hs).1
  have e1 : ¬ c s + 1 ≤ 0 := by
    rw [hc, nI_1]
    exact nI_nle (by omega) (by omega)
  rw [rs_mk_upd _ _ _ _ hs, if_neg e1, ← ht]
  unfold rs_mk
  by_cases z : c s = 0
  · rw [(k.1 z).1, z, if_pos (Int32.le_refl 0)]; rfl
  · have z' : ¬ c s ≤ 0 := fun y => z ((rs_c0 hn hS hs).mpr ((rs_cp hn hS hs).mp y))
    rw [(k.2.1 z).1, if_neg z', Int32.sub_self, Int32.add_zero]
