/-! the relation: n listed events (n ≤ 400) of sorts S i; for each sort X has count, sum, least and greatest of its group -/
def rs_ev (n : Nat) (S : Nat → Nat) (h p q a : Nat → Int32) : Prop := ∀ i, i < n → S i < 256 ∧ (-100 ≤ a i ∧ a i ≤ 100) ∧ h i = nI (S i / 16) ∧ p i = nI (S i / 4 % 4) ∧ q i = nI (S i % 4)
def rs_st (n : Nat) (S : Nat → Nat) (a c w l g : Nat → Int32) : Prop := ∀ s, s < 256 → c s = nI (rs_G S a n s).length ∧ (rs_G S a n s ≠ [] → w s = rs_W (fun x => x) (rs_G S a n s) ∧ rs_Mn (rs_G S a n s) (l s) ∧ rs_Mx (rs_G S a n s) (g s))
def rs_mk (c : Nat → Int32) : Nat → Int32 := fun s => if c s ≤ 0 then 0 else 1
def rs_R (e t : Int32) (c w l g : Nat → Int32) (z : Int32) (h p q a : Nat → Int32) : Prop := ∃ (n : Nat) (S : Nat → Nat), n ≤ 400 ∧ e = nI n ∧ z = nI n ∧ t = rs_S (rs_mk c) 256 ∧ rs_ev n S h p q a ∧ rs_st n S a c w l g
/-- the relation at the head of a turn whose first cell is k: (u : SX) is (eventTotal, sortTotal, counts, sums, leasts, greatests, groupCounts, groupSums), (v : SY) is (size, hours, places, kinds, amounts, has, sums, sorts) -/
def i_Rel (_ : Nat) (u : SX) (v : SY) : Prop := rs_R u.1 u.2.1 u.2.2.1 u.2.2.2.1 u.2.2.2.2.1 u.2.2.2.2.2.1 v.1 v.2.1 v.2.2.1 v.2.2.2.1 v.2.2.2.2.1
theorem i_up {k : Nat} {u : SX} {v : SY} (h : i_Rel k u v) : i_Rel (k + 5) u v := h
theorem i_vc0 : wpX_init (fun u => wpY_init (fun v => i_Rel 0 u v)) := by
  unfold wpX_init wpY_init
  refine ⟨0, fun _ => 0, by omega, rfl, rfl, ?_, fun i hi => absurd hi (by omega), fun s hs => ⟨rfl, fun k => absurd rfl k⟩⟩
  exact (rs_S_zero 256 (fun i _ => if_pos (Int32.le_refl 0))).symm
theorem i_vc_seal {k : Nat} {u : SX} {v : SY} (I : i_Rel k u v) (hk : k + 5 ≤ 2560) : wpX_seal (fun u' => wpY_seal (fun v' => i_Rel (k + 5) u' v') v) u := by
  obtain ⟨e, t, c, w, l, g, gc, gs⟩ := u
  obtain ⟨z, h, p, q, a, hb, sb, ob⟩ := v
  exact I
theorem i_vc_events {k : Nat} {u : SX} {v : SY} (I : i_Rel k u v) (hk : k + 5 ≤ 2560) : wpX_events (fun r => wpY_events (fun r' => r' = r ∧ i_Rel (k + 5) u v) v) u := by
  obtain ⟨e, t, c, w, l, g, gc, gs⟩ := u
  obtain ⟨z, h, p, q, a, hb, sb, ob⟩ := v
  have J : i_Rel (k + 5) (e, t, c, w, l, g, gc, gs) (z, h, p, q, a, hb, sb, ob) := I
  obtain ⟨n, S, hn, e1, e2, _⟩ := I
  exact ⟨e2.trans e1.symm, J⟩
/-! what the relation says of counts and sums -/
theorem rs_cp {n : Nat} {S : Nat → Nat} {a c w l g : Nat → Int32} (hn : n ≤ 400) (hS : rs_st n S a c w l g) {s : Nat} (hs : s < 256) : c s ≤ 0 ↔ rs_G S a n s = [] := by
  have hl := rs_G_len S a n s
  rw [(hS s hs).1, ← List.length_eq_zero_iff]
  have k : nI (rs_G S a n s).length ≤ nI 0 ↔ (rs_G S a n s).length ≤ 0 := nI_leI (by omega) (by omega)
  rw [nI_0] at k
  rw [k]
  omega
theorem rs_ex {n : Nat} {S : Nat → Nat} {h p q a c w l g : Nat → Int32} (hn : n ≤ 400) (hE : rs_ev n S h p q a) (hS : rs_st n S a c w l g)
    (W : Int32 → Int32) (V : Nat → Int32) (hV : ∀ s, s < 256 → rs_G S a n s ≠ [] → V s = rs_W W (rs_G S a n s)) (P R : Nat → Bool)
    (hR : ∀ s, s < 256 → R s = (decide (¬ c s ≤ 0) && P s)) :
    rs_S (fun s => if R s = true then V s else 0) 256 = rs_S (fun i => if P (S i) = true then W (a i) else 0) n := by
  rw [← rs_fub S a W P 256 n (fun i hi => (hE i hi).1)]
  refine rs_S_congr 256 (fun s hs => ?_)
  rw [hR s hs]
  by_cases k : rs_G S a n s = []
  · rw [decide_eq_false (fun y => y ((rs_cp hn hS hs).mpr k)), Bool.false_and, k]
    by_cases y : P s = true
    · rw [if_pos y]; rfl
    · rw [if_neg y]; rfl
  · rw [decide_eq_true (p := ¬ c s ≤ 0) (fun y => k ((rs_cp hn hS hs).mp y)), Bool.true_and, hV s hs k]
theorem rs_Vc {n : Nat} {S : Nat → Nat} {a c w l g : Nat → Int32} (hS : rs_st n S a c w l g) : ∀ s, s < 256 → rs_G S a n s ≠ [] → c s = rs_W (fun _ => 1) (rs_G S a n s) :=
  fun s hs _ => by rw [rs_W_len]; exact (hS s hs).1
theorem rs_Vw {n : Nat} {S : Nat → Nat} {a c w l g : Nat → Int32} (hS : rs_st n S a c w l g) : ∀ s, s < 256 → rs_G S a n s ≠ [] → w s = rs_W (fun x => x) (rs_G S a n s) :=
  fun s hs k => ((hS s hs).2 k).1
theorem rs_py {n : Nat} {S : Nat → Nat} {h p q a : Nat → Int32} (hE : rs_ev n S h p q a) {F : Nat} (hF : F < 262144) {i : Nat} (hi : i < n) : rs_yp (nI F) (h i) (p i) (q i) = rs_p F (S i) := by
  obtain ⟨h1, _, h2, h3, h4⟩ := hE i hi
  rw [h2, h3, h4]
  exact rs_yp_p hF h1
theorem rs_bt {t : Bool} (k : ¬ t = true) : t = false := by
  cases t
  · rfl
  · exact absurd rfl k
theorem rs_f_t {P : Bool} {x y : Int32} (k : P = true) : (if P = true then x else y) = x := if_pos k
theorem rs_f_f {P : Bool} {x y : Int32} (k : P = false) : (if P = true then x else y) = y := if_neg (by rw [k]; exact Bool.false_ne_true)
