/-! the groups, and sumFor -/
def rs_any (P : Nat → Bool) : Nat → Bool
  | 0 => false
  | j + 1 => rs_any P j || P j
theorem rs_any_s (P : Nat → Bool) (j : Nat) : rs_any P (j + 1) = (rs_any P j || P j) := rfl
theorem rs_any_iff (P : Nat → Bool) (n : Nat) : rs_any P n = true ↔ ∃ i, i < n ∧ P i = true := by
  induction n with
  | zero => exact ⟨fun y => absurd y Bool.false_ne_true, fun ⟨i, hi, _⟩ => absurd hi (by omega)⟩
  | succ n ih =>
    rw [rs_any_s, Bool.or_eq_true, ih]
    constructor
    · rintro (⟨i, hi, y⟩ | y)
      · exact ⟨i, by omega, y⟩
      · exact ⟨n, by omega, y⟩
    · rintro ⟨i, hi, y⟩
      by_cases e : i = n
      · subst e; exact Or.inr y
      · exact Or.inl ⟨i, by omega, y⟩
theorem rs_any_ex {n : Nat} {S : Nat → Nat} {h p q a c w l g : Nat → Int32} (hn : n ≤ 400) (hE : rs_ev n S h p q a) (hS : rs_st n S a c w l g) (P R : Nat → Bool)
    (hR : ∀ s, s < 256 → R s = (decide (¬ c s ≤ 0) && P s)) : rs_any R 256 = rs_any (fun i => P (S i)) n := by
  refine Bool.eq_iff_iff.mpr ?_
  rw [rs_any_iff, rs_any_iff]
  constructor
  · rintro ⟨s, hs, y⟩
    rw [hR s hs, Bool.and_eq_true, decide_eq_true_iff, rs_cp hn hS hs] at y
    obtain ⟨x, hx⟩ := List.exists_mem_of_ne_nil _ y.1
    obtain ⟨i, hi, e1, e2⟩ := (rs_G_mem S a n s x).mp hx
    exact ⟨i, hi, by rw [e1]; exact y.2⟩
  · rintro ⟨i, hi, y⟩
    have hs := (hE i hi).1
    refine ⟨S i, hs, ?_⟩
    rw [hR (S i) hs, Bool.and_eq_true, decide_eq_true_iff, rs_cp hn hS hs]
    refine ⟨fun z => ?_, y⟩
    have hm : a i ∈ rs_G S a n (S i) := (rs_G_mem S a n (S i) (a i)).mpr ⟨i, hi, rfl, rfl⟩
    rw [z] at hm
    cases hm
/-- what passes and lies in group v, over the sorts -/
def rs_pg (F b v s : Nat) : Bool := rs_p F s && decide (rs_g b s = v)
def rs_Qg (c : Nat → Int32) (F b v s : Nat) : Bool := rs_Q c F s && decide (rs_g b s = v)
theorem rs_Qg_r (c : Nat → Int32) (F b v s : Nat) : rs_Qg c F b v s = (decide (¬ c s ≤ 0) && rs_pg F b v s) := by
  unfold rs_Qg rs_Q rs_pg
  rw [Bool.and_assoc]
def rs_XC (c V : Nat → Int32) (F b v j : Nat) : Int32 := rs_S (fun s => if rs_Qg c F b v s = true then V s else 0) j
theorem rs_XC_n {c V : Nat → Int32} {F b v j : Nat} (k : rs_Q c F j = false) : rs_XC c V F b v (j + 1) = rs_XC c V F b v j := by
  unfold rs_XC
  rw [rs_S_s]
  rw [rs_f_f (by unfold rs_Qg; rw [k, Bool.false_and]), Int32.add_zero]
theorem rs_XC_o {c V : Nat → Int32} {F b v j : Nat} (k : v ≠ rs_g b j) : rs_XC c V F b v (j + 1) = rs_XC c V F b v j := by
  unfold rs_XC
  rw [rs_S_s]
  rw [rs_f_f (by unfold rs_Qg; rw [decide_eq_false (fun y => k y.symm), Bool.and_false]), Int32.add_zero]
theorem rs_XC_y {c V : Nat → Int32} {F b j : Nat} (k : rs_Q c F j = true) : rs_XC c V F b (rs_g b j) (j + 1) = rs_XC c V F b (rs_g b j) j + V j := by
  unfold rs_XC
  rw [rs_S_s]
  rw [rs_f_t (by unfold rs_Qg; rw [k, decide_eq_true rfl]; rfl)]
theorem rs_xg30 (post : SX → Prop) (F b : Nat) (hF : F < 262144) (hb : b < 3) (e t : Int32) (c w l g : Nat → Int32)
    (hp : ∀ gc gs : Nat → Int32, (∀ v, v < 16 → gc v = rs_XC c c F b v 256 ∧ gs v = rs_XC c w F b v 256) → post (e, t, c, w, l, g, gc, gs)) :
    ∀ d j : Nat, j + d = 256 → ∀ gc gs : Nat → Int32, (∀ v, v < 16 → gc v = rs_XC c c F b v j ∧ gs v = rs_XC c w F b v j) → wX_gatherGroups_30 post (nI F) (nI b) e t (d + 1) (nI j) c w l g gc gs := by
  intro d
  induction d with
  | zero =>
    intro j hj gc gs I
    have hj' : j = 256 := by omega
    subst hj'
    exact br_t (Int32.le_refl _) (hp gc gs I)
  | succ d ih =>
    intro j hj gc gs I
    have hj' : j < 256 := by omega
    have hg : rs_g b j < 16 := rs_g_lt hj'
    have hv : vp_in (nI j) 256 := vp_in_nI hj' (by omega)
    have hw : vp_in (nI (rs_g b j)) 16 := vp_in_nI hg (by omega)
    refine br_f (nI_ge (b := 256) hj' (by omega)) ?_
    refine rs_hp _ e t c w l g gc gs j F hj' hF (fun k => ?_) (fun k => ?_)
    · refine br_f rs_n10 (rs_go _ j b hj' hb ?_)
      rw [nI_clamp (n := j) (by omega), nI_clamp (n := rs_g b j) (by omega)]
      refine ⟨hw, hv, hw, nm_e ⟨hw, hv, hw, nm_e (nm_r (nI_1 j) (ih (j + 1) (by omega) _ _ (fun v hv' => ?_)))⟩⟩
      by_cases y : v = rs_g b j
      · subst y
        rw [pk_us, pk_us, rs_XC_y k, rs_XC_y k, (I _ hg).1, (I _ hg).2]
        exact ⟨rfl, rfl⟩
      · rw [pk_un y, pk_un y, rs_XC_o y, rs_XC_o y]
        exact I v hv'
    · refine br_t rfl (nm_r (nI_1 j) (ih (j + 1) (by omega) gc gs (fun v hv' => ?_)))
      rw [rs_XC_n k, rs_XC_n k]
      exact I v hv'
theorem rs_xg2 (post : SX → Prop) (x1 x2 e t : Int32) (c w l g : Nat → Int32)
    (hp : ∀ gc gs : Nat → Int32, (∀ v, v < 16 → gc v = 0 ∧ gs v = 0) → ∃ n30 : Nat, wX_gatherGroups_30 post x1 x2 e t n30 0 c w l g gc gs) :
    ∀ d j : Nat, j + d = 16 → ∀ gc gs : Nat → Int32, (∀ v, v < j → gc v = 0 ∧ gs v = 0) → wX_gatherGroups_2 post x1 x2 e t (d + 1) (nI j) c w l g gc gs := by
  intro d
  induction d with
  | zero =>
    intro j hj gc gs I
    have hj' : j = 16 := by omega
    subst hj'
    exact br_t (Int32.le_refl _) (hp gc gs I)
  | succ d ih =>
    intro j hj gc gs I
    have hj' : j < 16 := by omega
    have hv : vp_in (nI j) 16 := vp_in_nI hj' (by omega)
    refine br_f (nI_ge (b := 16) hj' (by omega)) ?_
    rw [nI_clamp (n := j) (by omega)]
    refine ⟨hv, nm_e ⟨hv, nm_e (nm_r (nI_1 j) (ih (j + 1) (by omega) _ _ (fun v hv' => ?_)))⟩⟩
    by_cases y : v = j
    · subst y
      rw [pk_us, pk_us]
      exact ⟨rfl, rfl⟩
    · rw [pk_un y, pk_un y]
      exact I v (by omega)
theorem rs_xgat (post : SX → Prop) (F b : Nat) (hF : F < 262144) (hb : b < 3) (e t : Int32) (c w l g gc gs : Nat → Int32)
    (hp : ∀ gc gs : Nat → Int32, (∀ v, v < 16 → gc v = rs_XC c c F b v 256 ∧ gs v = rs_XC c w F b v 256) → post (e, t, c, w, l, g, gc, gs)) : wpX_gatherGroups post (e, t, c, w, l, g, gc, gs) (nI F) (nI b) := by
  unfold wpX_gatherGroups
  dsimp only
  exact ⟨16 + 1, rs_xg2 post (nI F) (nI b) e t c w l g (fun gc' gs' I => ⟨256 + 1, rs_xg30 post F b hF hb e t c w l g hp 256 0 rfl gc' gs' I⟩) 16 0 rfl gc gs (fun v hv => absurd hv (by omega))⟩
/-- the same over the events -/
def rs_YC (S : Nat → Nat) (a : Nat → Int32) (F b v j : Nat) : Int32 := rs_S (fun i => if rs_pg F b v (S i) = true then a i else 0) j
def rs_YM (S : Nat → Nat) (F b v j : Nat) : Bool := rs_any (fun i => rs_pg F b v (S i)) j
theorem rs_YC_n {S : Nat → Nat} {a : Nat → Int32} {F b v j : Nat} (k : rs_pg F b v (S j) = false) : rs_YC S a F b v (j + 1) = rs_YC S a F b v j ∧ rs_YM S F b v (j + 1) = rs_YM S F b v j := by
  unfold rs_YC rs_YM
  rw [rs_S_s, rs_any_s]
  rw [rs_f_f k, Int32.add_zero, k, Bool.or_false]
  exact ⟨rfl, rfl⟩
theorem rs_YC_y {S : Nat → Nat} {a : Nat → Int32} {F b v j : Nat} (k : rs_pg F b v (S j) = true) : rs_YC S a F b v (j + 1) = rs_YC S a F b v j + a j ∧ rs_YM S F b v (j + 1) = true := by
  unfold rs_YC rs_YM
  rw [rs_S_s, rs_any_s]
  rw [rs_f_t k, k, Bool.or_true]
  exact ⟨rfl, rfl⟩
theorem rs_ypart (post : Int32 → Prop) {n : Nat} {S : Nat → Nat} {h p q a : Nat → Int32} (hn : n ≤ 400) (hE : rs_ev n S h p q a) (z : Int32) (hb sb ob : Nat → Int32) {i b : Nat} (hi : i < n) (hb3 : b < 3) (k : post (nI (rs_g b (S i)))) : wpY_part post (z, h, p, q, a, hb, sb, ob) (nI b) (nI i) := by
  have hv : vp_in (nI i) 400 := vp_in_nI (by omega) (by omega)
  obtain ⟨_, _, h1, h2, h3⟩ := hE i hi
  unfold wpY_part
  dsimp only
  rw [nI_clamp (n := i) (by omega), h1, h2, h3]
  rcases (by omega : b = 0 ∨ b = 1 ∨ b = 2) with rfl | rfl | rfl
  · exact br_t rfl ⟨hv, k⟩
  · exact br_f (by decide +kernel) (br_t rfl ⟨hv, k⟩)
  · exact br_f (by decide +kernel) (br_f (by decide +kernel) ⟨hv, k⟩)
theorem rs_yg30 (post : SY → Prop) (F b : Nat) (hF : F < 262144) (hb3 : b < 3) {n : Nat} {S : Nat → Nat} {h p q a : Nat → Int32} (hn : n ≤ 400) (hE : rs_ev n S h p q a) (ob : Nat → Int32)
    (hp : ∀ hb sb : Nat → Int32, (∀ v, v < 16 → hb v = rs_b (rs_YM S F b v n) ∧ sb v = rs_YC S a F b v n) → post (nI n, h, p, q, a, hb, sb, ob)) :
    ∀ d j : Nat, j + d = n → ∀ hb sb : Nat → Int32, (∀ v, v < 16 → hb v = rs_b (rs_YM S F b v j) ∧ sb v = rs_YC S a F b v j) → wY_gather_30 post (nI F) (nI b) (nI n) (d + 1) (nI j) h p q a hb sb ob := by
  intro d
  induction d with
  | zero =>
    intro j hj hb sb I
    have hj' : j = n := by omega
    subst hj'
    exact br_t (Int32.le_refl _) (hp hb sb I)
  | succ d ih =>
    intro j hj hb sb I
    have hj' : j < n := by omega
    have hs : S j < 256 := (hE j hj').1
    have hg : rs_g b (S j) < 16 := rs_g_lt hs
    have hv : vp_in (nI j) 400 := vp_in_nI (by omega) (by omega)
    have hw : vp_in (nI (rs_g b (S j))) 16 := vp_in_nI hg (by omega)
    refine br_f (nI_ge hj' (by omega)) ?_
    refine rs_yps _ (nI F) j (by omega) (nI n) h p q a hb sb ob (fun k => ?_) (fun k => ?_)
    · rw [rs_py hE hF hj'] at k
      refine br_f rs_n10 (rs_ypart _ hn hE (nI n) hb sb ob hj' hb3 ?_)
      rw [nI_clamp (n := j) (by omega), nI_clamp (n := rs_g b (S j)) (by omega), rs_nb1]
      refine ⟨hw, nm_e ⟨hw, hv, hw, nm_e (nm_r (nI_1 j) (ih (j + 1) (by omega) _ _ (fun v hv' => ?_)))⟩⟩
      by_cases y : v = rs_g b (S j)
      · subst y
        have k' : rs_pg F b (rs_g b (S j)) (S j) = true := by
          unfold rs_pg
          rw [k, decide_eq_true rfl]
          rfl
        rw [pk_us, pk_us, (rs_YC_y (a := a) k').1, (rs_YC_y (a := a) k').2, (I _ hg).2]
        exact ⟨rfl, rfl⟩
      · have k' : rs_pg F b v (S j) = false := by
          unfold rs_pg
          rw [decide_eq_false (fun z => y z.symm), Bool.and_false]
        rw [pk_un y, pk_un y, (rs_YC_n (a := a) k').1, (rs_YC_n (a := a) k').2]
        exact I v hv'
    · rw [rs_py hE hF hj'] at k
      refine br_t rfl (nm_r (nI_1 j) (ih (j + 1) (by omega) hb sb (fun v hv' => ?_)))
      have k' : rs_pg F b v (S j) = false := by
        unfold rs_pg
        rw [k, Bool.false_and]
      rw [(rs_YC_n (a := a) k').1, (rs_YC_n (a := a) k').2]
      exact I v hv'
theorem rs_yg2 (post : SY → Prop) (x1 x2 z : Int32) (h p q a ob : Nat → Int32)
    (hp : ∀ hb sb : Nat → Int32, (∀ v, v < 16 → hb v = 0 ∧ sb v = 0) → ∃ n30 : Nat, wY_gather_30 post x1 x2 z n30 0 h p q a hb sb ob) :
    ∀ d j : Nat, j + d = 16 → ∀ hb sb : Nat → Int32, (∀ v, v < j → hb v = 0 ∧ sb v = 0) → wY_gather_2 post x1 x2 z (d + 1) (nI j) h p q a hb sb ob := by
  intro d
  induction d with
  | zero =>
    intro j hj hb sb I
    have hj' : j = 16 := by omega
    subst hj'
    exact br_t (Int32.le_refl _) (hp hb sb I)
  | succ d ih =>
    intro j hj hb sb I
    have hj' : j < 16 := by omega
    have hv : vp_in (nI j) 16 := vp_in_nI hj' (by omega)
    refine br_f (nI_ge (b := 16) hj' (by omega)) ?_
    rw [nI_clamp (n := j) (by omega), rs_nb0]
    refine ⟨hv, nm_e ⟨hv, nm_e (nm_r (nI_1 j) (ih (j + 1) (by omega) _ _ (fun v hv' => ?_)))⟩⟩
    by_cases y : v = j
    · subst y
      rw [pk_us, pk_us]
      exact ⟨rfl, rfl⟩
    · rw [pk_un y, pk_un y]
      exact I v (by omega)
theorem rs_ygat (post : SY → Prop) (F b : Nat) (hF : F < 262144) (hb3 : b < 3) {n : Nat} {S : Nat → Nat} {h p q a : Nat → Int32} (hn : n ≤ 400) (hE : rs_ev n S h p q a) (hb sb ob : Nat → Int32)
    (hp : ∀ hb sb : Nat → Int32, (∀ v, v < 16 → hb v = rs_b (rs_YM S F b v n) ∧ sb v = rs_YC S a F b v n) → post (nI n, h, p, q, a, hb, sb, ob)) : wpY_gather post (nI n, h, p, q, a, hb, sb, ob) (nI F) (nI b) := by
  unfold wpY_gather
  dsimp only
  exact ⟨16 + 1, rs_yg2 post (nI F) (nI b) (nI n) h p q a ob (fun hb' sb' I => ⟨n + 1, rs_yg30 post F b hF hb3 hn hE ob hp n 0 (by omega) hb' sb' I⟩) 16 0 rfl hb sb (fun v hv => absurd hv (by omega))⟩
/-- both gather the same -/
theorem rs_gsum {n : Nat} {S : Nat → Nat} {h p q a c w l g : Nat → Int32} (hn : n ≤ 400) (hE : rs_ev n S h p q a) (hS : rs_st n S a c w l g) (F b v : Nat) : rs_XC c w F b v 256 = rs_YC S a F b v n :=
  rs_ex hn hE hS (fun x => x) w (rs_Vw hS) (rs_pg F b v) (rs_Qg c F b v) (fun s _ => rs_Qg_r c F b v s)
theorem rs_gcnt {n : Nat} {S : Nat → Nat} {h p q a c w l g : Nat → Int32} (hn : n ≤ 400) (hE : rs_ev n S h p q a) (hS : rs_st n S a c w l g) (F b v : Nat) : rs_XC c c F b v 256 ≤ 0 ↔ rs_YM S F b v n = false := by
  have k : rs_XC c c F b v 256 = nI (rs_N (fun i => rs_pg F b v (S i)) n) := by
    rw [← rs_N_S]
    exact rs_ex hn hE hS (fun _ => 1) c (rs_Vc hS) (rs_pg F b v) (rs_Qg c F b v) (fun s _ => rs_Qg_r c F b v s)
  have hl := rs_N_le (fun i => rs_pg F b v (S i)) n
  have k2 : nI (rs_N (fun i => rs_pg F b v (S i)) n) ≤ nI 0 ↔ rs_N (fun i => rs_pg F b v (S i)) n ≤ 0 := nI_leI (by omega) (by omega)
  rw [nI_0] at k2
  rw [k, k2]
  have k3 := rs_N_pos (fun i => rs_pg F b v (S i)) n
  rw [← rs_any_iff] at k3
  unfold rs_YM
  constructor
  · intro y
    refine rs_bt (fun r => ?_)
    have := k3.mpr r
    omega
  · intro y
    rw [y] at k3
    have : ¬ 0 < rs_N (fun i => rs_pg F b v (S i)) n := fun r => Bool.false_ne_true (k3.mp r)
    omega
