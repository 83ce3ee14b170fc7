/-! bools as ints; the filter as a function of the sort, on both sides -/
def rs_b (t : Bool) : Int32 := if t = true then 1 else 0
theorem rs_b_0 (t : Bool) : rs_b t = 0 ↔ t = false := by
  cases t
  · exact ⟨fun _ => rfl, fun _ => rfl⟩
  · exact ⟨fun z => absurd z (by decide +kernel), fun z => nomatch z⟩
theorem rs_nb0 : vp_nar .boolean 0 = 0 := by decide +kernel
theorem rs_nb1 : vp_nar .boolean 1 = 1 := by decide +kernel
theorem rs_n10 : ¬ (1 : Int32) = 0 := by decide +kernel
def rs_m (m : Nat) (a b : Bool) : Bool := if m = 0 then a && b else if m = 1 then a || b else if m = 2 then !(a && b) else !a && !b
def rs_p (F s : Nat) : Bool := (decide (F / 1024 % 16 ≤ s / 16) && decide (s / 16 ≤ F / 16384 % 16)) && rs_m (F / 256 % 4) (decide (F % 16 / 2 ^ (s / 4 % 4) % 2 = 1)) (decide (F / 16 % 16 / 2 ^ (s % 4) % 2 = 1))
def rs_g (b s : Nat) : Nat := if b = 0 then s / 16 else if b = 1 then s / 4 % 4 else s % 4
theorem rs_g_lt {b s : Nat} (hs : s < 256) : rs_g b s < 16 := by
  unfold rs_g
  by_cases h : b = 0
  · rw [if_pos h]; omega
  · rw [if_neg h]
    by_cases h' : b = 1
    · rw [if_pos h']; omega
    · rw [if_neg h']; omega
theorem rs_sm : ∀ k, k < 8 → ((nI k &&& 31).toBitVec.smod 32).toNat = k := by decide +kernel
theorem rs_bit {a k : Nat} (ha : a < 2 ^ 31) (hk : k < 8) : ((nI a >>> (nI k &&& 31)) &&& 1) = nI (a / 2 ^ k % 2) := by
  have h2 : a / 2 ^ k ≤ a := Nat.div_le_self _ _
  rw [pk_shrN ha _ k (rs_sm k hk), pk_andN (by omega) 1 (by decide +kernel)]
theorem rs_bit1 {a k : Nat} (ha : a < 2 ^ 31) (hk : k < 8) : ((nI a >>> (nI k &&& 31)) &&& 1) = 1 ↔ a / 2 ^ k % 2 = 1 := by
  rw [rs_bit ha hk]
  exact nI_eq (b := 1) (by omega) (by omega)
theorem rs_go (post : Int32 → Prop) (s b : Nat) (hs : s < 256) (hb : b < 3) (h : post (nI (rs_g b s))) : wpX_groupOf post (nI s) (nI b) := by
  have e0 : nI s / 16 = nI (s / 16) := pk_div (d := 16) (by omega) (by omega) (by omega)
  have e1 : nI s / 4 = nI (s / 4) := pk_div (d := 4) (by omega) (by omega) (by omega)
  have e2 : nI (s / 4) - nI (s / 4) / 4 * 4 = nI (s / 4 % 4) := pk_rem (d := 4) (by omega) (by omega) (by omega)
  have e3 : nI s - nI s / 4 * 4 = nI (s % 4) := pk_rem (d := 4) (by omega) (by omega) (by omega)
  unfold wpX_groupOf
  rcases (by omega : b = 0 ∨ b = 1 ∨ b = 2) with rfl | rfl | rfl
  · exact br_t rfl ⟨by decide, by rw [e0]; exact h⟩
  · exact br_f (by decide +kernel) (br_t rfl ⟨by decide, by decide, by rw [e1, e2]; exact h⟩)
  · exact br_f (by decide +kernel) (br_f (by decide +kernel) ⟨by decide, by rw [e3]; exact h⟩)
theorem rs_hour (post : Int32 → Prop) (s F : Nat) (hs : s < 256) (hF : F < 262144)
    (h1 : F / 1024 % 16 ≤ s / 16 ∧ s / 16 ≤ F / 16384 % 16 → post 1) (h0 : ¬ (F / 1024 % 16 ≤ s / 16 ∧ s / 16 ≤ F / 16384 % 16) → post 0) : wpX_hourPasses post (nI s) (nI F) := by
  have e1 : nI F / 1024 = nI (F / 1024) := pk_div (d := 1024) (by omega) (by omega) (by omega)
  have e2 : nI (F / 1024) - nI (F / 1024) / 16 * 16 = nI (F / 1024 % 16) := pk_rem (d := 16) (by omega) (by omega) (by omega)
  have e3 : nI F / 16384 = nI (F / 16384) := pk_div (d := 16384) (by omega) (by omega) (by omega)
  have e4 : nI (F / 16384) - nI (F / 16384) / 16 * 16 = nI (F / 16384 % 16) := pk_rem (d := 16) (by omega) (by omega) (by omega)
  unfold wpX_hourPasses
  refine rs_go _ s 0 hs (by omega) ?_
  refine ⟨by decide, by decide, nm_r (e' := nI (F / 1024 % 16)) (by rw [e1, e2]) ⟨by decide, by decide, nm_r (e' := nI (F / 16384 % 16)) (by rw [e3, e4]) ?_⟩⟩
  exact pk_lt (s / 16) (F / 1024 % 16) (fun y => h0 (by omega)) (fun y => pk_lt (F / 16384 % 16) (s / 16) (fun y' => h0 (by omega)) (fun y' => h1 (by omega)))
theorem rs_68 (post : Int32 → Prop) (m : Nat) (hm : m < 4) (a b : Bool) (h : post (rs_b (rs_m m a b))) : wX_placeAndKindPass_68 post (nI m) (rs_b a) (rs_b b) := by
  unfold wX_placeAndKindPass_68
  have n1 : nI 1 = 1 := rfl
  have n2 : nI 2 = 2 := rfl
  have n3 : nI 3 = 3 := rfl
  have t20 : ¬ (2 : Int32) = 0 := by decide +kernel
  have t21 : ¬ (2 : Int32) = 1 := by decide +kernel
  have t30 : ¬ (3 : Int32) = 0 := by decide +kernel
  have t31 : ¬ (3 : Int32) = 1 := by decide +kernel
  have t32 : ¬ (3 : Int32) = 2 := by decide +kernel
  rcases (by omega : m = 0 ∨ m = 1 ∨ m = 2 ∨ m = 3) with rfl | rfl | rfl | rfl <;> cases a <;> cases b <;>
    simp only [nI_0, n1, n2, n3, rs_b, if_true, if_false, Bool.false_eq_true, rs_n10, t20, t21, t30, t31, t32, not_true, not_false_iff, true_imp_iff, false_imp_iff, and_true, true_and, forall_const] <;> exact h
theorem rs_51 (post : Int32 → Prop) (k B m : Nat) (hk : k < 8) (hB : B < 2 ^ 31) (hm : m < 4) (a : Bool) (h : post (rs_b (rs_m m a (decide (B / 2 ^ k % 2 = 1))))) : wX_placeAndKindPass_51 post (nI k) (nI B) (nI m) (rs_b a) := by
  unfold wX_placeAndKindPass_51
  refine br_c (fun y => ?_) (fun y => ?_)
  · rw [rs_bit1 hB hk] at y
    rw [decide_eq_true y] at h
    exact rs_68 post m hm a true h
  · rw [rs_bit1 hB hk] at y
    rw [decide_eq_false y] at h
    exact rs_68 post m hm a false h
theorem rs_pk (post : Int32 → Prop) (s F : Nat) (hs : s < 256) (hF : F < 262144)
    (h : post (rs_b (rs_m (F / 256 % 4) (decide (F % 16 / 2 ^ (s / 4 % 4) % 2 = 1)) (decide (F / 16 % 16 / 2 ^ (s % 4) % 2 = 1))))) : wpX_placeAndKindPass post (nI s) (nI F) := by
  have e0 : nI F - nI F / 16 * 16 = nI (F % 16) := pk_rem (d := 16) (by omega) (by omega) (by omega)
  have e1 : nI F / 16 = nI (F / 16) := pk_div (d := 16) (by omega) (by omega) (by omega)
  have e2 : nI (F / 16) - nI (F / 16) / 16 * 16 = nI (F / 16 % 16) := pk_rem (d := 16) (by omega) (by omega) (by omega)
  have e3 : nI F / 256 = nI (F / 256) := pk_div (d := 256) (by omega) (by omega) (by omega)
  have e4 : nI (F / 256) - nI (F / 256) / 4 * 4 = nI (F / 256 % 4) := pk_rem (d := 4) (by omega) (by omega) (by omega)
  unfold wpX_placeAndKindPass
  refine rs_go _ s 1 hs (by omega) ?_
  refine rs_go _ s 2 hs (by omega) ?_
  refine ⟨by decide, nm_r (e' := nI (F % 16)) e0 ⟨by decide, by decide, nm_r (e' := nI (F / 16 % 16)) (by rw [e1, e2]) ⟨by decide, by decide, nm_r (e' := nI (F / 256 % 4)) (by rw [e3, e4]) ?_⟩⟩⟩
  show (((nI (F % 16) >>> (nI (s / 4 % 4) &&& 31)) &&& 1) = 1 → wX_placeAndKindPass_51 post (nI (s % 4)) (nI (F / 16 % 16)) (nI (F / 256 % 4)) 1) ∧ (¬ ((nI (F % 16) >>> (nI (s / 4 % 4) &&& 31)) &&& 1) = 1 → wX_placeAndKindPass_51 post (nI (s % 4)) (nI (F / 16 % 16)) (nI (F / 256 % 4)) 0)
  refine br_c (fun y => ?_) (fun y => ?_)
  · rw [rs_bit1 (by omega) (by omega)] at y
    rw [decide_eq_true y] at h
    exact rs_51 post (s % 4) (F / 16 % 16) (F / 256 % 4) (by omega) (by omega) (by omega) true h
  · rw [rs_bit1 (by omega) (by omega)] at y
    rw [decide_eq_false y] at h
    exact rs_51 post (s % 4) (F / 16 % 16) (F / 256 % 4) (by omega) (by omega) (by omega) false h
def rs_Q (c : Nat → Int32) (F s : Nat) : Bool := decide (¬ c s ≤ 0) && rs_p F s
theorem rs_hp (post : Int32 → Prop) (e t : Int32) (c w l g gc gs : Nat → Int32) (s F : Nat) (hs : s < 256) (hF : F < 262144)
    (h1 : rs_Q c F s = true → post 1) (h0 : rs_Q c F s = false → post 0) : wpX_hasPassing post (e, t, c, w, l, g, gc, gs) (nI s) (nI F) := by
  unfold wpX_hasPassing
  dsimp only
  refine ⟨vp_in_nI hs (by omega), ?_⟩
  rw [nI_clamp (by omega)]
  refine br_c (fun y => h0 ?_) (fun y => ?_)
  · unfold rs_Q
    rw [decide_eq_false (fun n => n y), Bool.false_and]
  · have q1 : rs_Q c F s = rs_p F s := by
      unfold rs_Q
      rw [decide_eq_true y, Bool.true_and]
    rw [q1] at h1 h0
    refine rs_hour _ s F hs hF (fun k => ?_) (fun k => ?_)
    · have q2 : rs_p F s = rs_m (F / 256 % 4) (decide (F % 16 / 2 ^ (s / 4 % 4) % 2 = 1)) (decide (F / 16 % 16 / 2 ^ (s % 4) % 2 = 1)) := by
        unfold rs_p
        rw [decide_eq_true k.1, decide_eq_true k.2, Bool.true_and, Bool.true_and]
      rw [q2] at h1 h0
      refine br_f rs_n10 ?_
      refine rs_pk _ s F hs hF ?_
      cases hm : rs_m (F / 256 % 4) (decide (F % 16 / 2 ^ (s / 4 % 4) % 2 = 1)) (decide (F / 16 % 16 / 2 ^ (s % 4) % 2 = 1))
      · exact br_t rfl (h0 hm)
      · exact br_f rs_n10 (h1 hm)
    · refine br_t rfl (h0 ?_)
      unfold rs_p
      by_cases k1 : F / 1024 % 16 ≤ s / 16
      · rw [decide_eq_false (p := s / 16 ≤ F / 16384 % 16) (fun k2 => k ⟨k1, k2⟩), Bool.and_false, Bool.false_and]
      · rw [decide_eq_false k1, Bool.false_and, Bool.false_and]
