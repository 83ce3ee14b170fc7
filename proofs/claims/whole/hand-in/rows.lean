section
theorem pk_us {f : Nat → Int32} {k : Nat} {x : Int32} : upd f k x k = x := if_pos rfl
theorem pk_un {f : Nat → Int32} {k j : Nat} {x : Int32} (h : j ≠ k) : upd f k x j = f j := if_neg h
theorem pk_sub {a b : Nat} (h : b ≤ a) : nI a - nI b = nI (a - b) := by
  obtain ⟨c, rfl⟩ : ∃ c, a = c + b := ⟨a - b, by omega⟩
  rw [← nI_add, Int32.add_sub_cancel, Nat.add_sub_cancel]
theorem pk_m1 (n : Nat) : nI (n + 1) + (-1) = nI n := by
  rw [← nI_1, Int32.add_assoc, show (1 : Int32) + (-1) = 0 from rfl, Int32.add_zero]
theorem pk_mul (a b : Nat) : nI a * nI b = nI (a * b) := (Int32.ofNat_mul a b).symm
theorem pk_div {a d : Nat} (ha : a < 2 ^ 31) (h0 : 0 < d) (hd : d < 2 ^ 31) : nI a / nI d = nI (a / d) := by
  apply Int32.toInt_inj.mp
  rw [lg_idiv_nonneg (by rw [nI_toInt ha]; omega) (by rw [nI_toInt hd]; omega), nI_toInt ha, nI_toInt hd, nI_toInt (Nat.lt_of_le_of_lt (Nat.div_le_self a d) ha)]
  first | rfl | exact (Int.natCast_ediv _ _).symm
theorem pk_rem {a d : Nat} (ha : a < 2 ^ 31) (h0 : 0 < d) (hd : d < 2 ^ 31) : nI a - nI a / nI d * nI d = nI (a % d) := by
  rw [pk_div ha h0 hd, pk_mul, pk_sub (Nat.div_mul_le_self a d)]
  exact congrArg nI (by have := Nat.div_add_mod' a d; omega)
theorem pk_le {x y : Int32} {A B : Prop} (a b : Nat) (f : a ≤ b → A) (g : b < a → B) (hx : x = nI a := by rfl) (hy : y = nI b := by rfl) (ha : a < 2 ^ 31 := by omega) (hb : b < 2 ^ 31 := by omega) : (x ≤ y → A) ∧ (¬ x ≤ y → B) := by
  subst hx hy
  rw [nI_leI ha hb]
  exact ⟨f, fun z => g (by omega)⟩
theorem pk_lt {x y : Int32} {A B : Prop} (a b : Nat) (f : a < b → A) (g : b ≤ a → B) (hx : x = nI a := by rfl) (hy : y = nI b := by rfl) (ha : a < 2 ^ 31 := by omega) (hb : b < 2 ^ 31 := by omega) : (x < y → A) ∧ (¬ x < y → B) := by
  subst hx hy
  rw [nI_ltI ha hb]
  exact ⟨f, fun z => g (by omega)⟩
theorem pk_eq {x y : Int32} {A B : Prop} (a b : Nat) (f : a = b → A) (g : a ≠ b → B) (hx : x = nI a := by rfl) (hy : y = nI b := by rfl) (ha : a < 2 ^ 31 := by omega) (hb : b < 2 ^ 31 := by omega) : (x = y → A) ∧ (¬ x = y → B) := by
  subst hx hy
  rw [nI_eq ha hb]
  exact ⟨f, g⟩
theorem pk_in {x : Int32} (n N : Nat) (h : n < N) (hx : x = nI n := by rfl) (hN : N < 2 ^ 31 := by omega) : vp_in x N := by
  subst hx
  exact vp_in_nI h hN
theorem pk_cl {x : Int32} (n : Nat) (hx : x = nI n := by rfl) (h : n < 2 ^ 31 := by omega) : x.toNatClampNeg = n := by
  subst hx
  exact nI_clamp h
theorem pk_tn {n : Nat} (h : n < 2 ^ 32) : (nI n).toBitVec.toNat = n := Nat.mod_eq_of_lt h
theorem pk_and (x : Int32) {m : Int32} (k : Nat) (hm : m.toBitVec.toNat = 2 ^ k - 1) : x &&& m = nI (x.toBitVec.toNat % 2 ^ k) := by
  apply Int32.toBitVec_inj.mp
  apply BitVec.eq_of_toNat_eq
  rw [Int32.toBitVec_and, BitVec.toNat_and, hm, Nat.and_two_pow_sub_one_eq_mod]
  show _ = (BitVec.ofNat 32 _).toNat
  rw [BitVec.toNat_ofNat]
  exact (Nat.mod_eq_of_lt (Nat.lt_of_le_of_lt (Nat.mod_le _ _) x.toBitVec.isLt)).symm
theorem pk_andN {n : Nat} (h : n < 2 ^ 32) {m : Int32} (k : Nat) (hm : m.toBitVec.toNat = 2 ^ k - 1) : nI n &&& m = nI (n % 2 ^ k) := by
  rw [pk_and _ k hm, pk_tn h]
theorem pk_shr (a s : Int32) (k : Nat) (hs : (s.toBitVec.smod 32).toNat = k) : (a >>> s).toInt = a.toInt >>> k := by
  show (a.toBitVec.sshiftRight (s.toBitVec.smod 32).toNat).toInt = _
  rw [hs, BitVec.toInt_sshiftRight]
  rfl
theorem pk_shrN {n : Nat} (h : n < 2 ^ 31) (s : Int32) (k : Nat) (hs : (s.toBitVec.smod 32).toNat = k) : nI n >>> s = nI (n / 2 ^ k) := by
  apply Int32.toInt_inj.mp
  have h2 : n / 2 ^ k ≤ n := Nat.div_le_self _ _
  rw [pk_shr _ _ k hs, nI_toInt h, nI_toInt (by omega), Int.shiftRight_eq_div_pow]
  rfl
/-! sums below n, over Int32 (a commutative group: no bound is needed) -/
def rs_S (f : Nat → Int32) : Nat → Int32
  | 0 => 0
  | n + 1 => rs_S f n + f n
theorem rs_S_s (f : Nat → Int32) (n : Nat) : rs_S f (n + 1) = rs_S f n + f n := rfl
theorem rs_S_congr {f g : Nat → Int32} (n : Nat) (h : ∀ i, i < n → f i = g i) : rs_S f n = rs_S g n := by
  induction n with
  | zero => rfl
  | succ n ih => rw [rs_S_s, rs_S_s, ih (fun i hi => h i (by omega)), h n (by omega)]
theorem rs_S_add (f g : Nat → Int32) (n : Nat) : rs_S (fun i => f i + g i) n = rs_S f n + rs_S g n := by
  induction n with
  | zero => rfl
  | succ n ih => rw [rs_S_s, rs_S_s, rs_S_s, ih]; grind
theorem rs_S_zero {f : Nat → Int32} (n : Nat) (h : ∀ i, i < n → f i = 0) : rs_S f n = 0 := by
  induction n with
  | zero => rfl
  | succ n ih => rw [rs_S_s, ih (fun i hi => h i (by omega)), h n (by omega)]; rfl
theorem rs_S_one (k : Nat) (x : Int32) (n : Nat) (hk : k < n) : rs_S (fun i => if k = i then x else 0) n = x := by
  induction n with
  | zero => omega
  | succ n ih =>
    rw [rs_S_s]
    by_cases h : k = n
    · rw [rs_S_zero n (fun i hi => if_neg (by omega)), if_pos h, Int32.zero_add]
    · rw [ih (by omega), if_neg h, Int32.add_zero]
theorem rs_S_upd (f : Nat → Int32) (k : Nat) (x : Int32) (n : Nat) (hk : k < n) : rs_S (upd f k x) n = rs_S f n + (x - f k) := by
  have e : rs_S (upd f k x) n = rs_S (fun i => f i + (if k = i then x - f k else 0)) n := by
    apply rs_S_congr
    intro i hi
    by_cases h : i = k
    · subst h; simp only [upd, if_true]; grind
    · have h' : ¬ k = i := fun z => h z.symm
      simp only [upd, if_neg h, if_neg h']; grind
  rw [e, rs_S_add, rs_S_one k _ n hk]
/-! the groups: the amounts of the listed events of one sort, the last one first -/
def rs_G (S : Nat → Nat) (A : Nat → Int32) : Nat → Nat → List Int32
  | 0, _ => []
  | n + 1, s => if S n = s then A n :: rs_G S A n s else rs_G S A n s
theorem rs_G_s (S : Nat → Nat) (A : Nat → Int32) (n s : Nat) : rs_G S A (n + 1) s = if S n = s then A n :: rs_G S A n s else rs_G S A n s := rfl
theorem rs_G_congr {S S' : Nat → Nat} {A A' : Nat → Int32} (n : Nat) (h : ∀ i, i < n → S i = S' i ∧ A i = A' i) (s : Nat) : rs_G S A n s = rs_G S' A' n s := by
  induction n with
  | zero => rfl
  | succ n ih => rw [rs_G_s, rs_G_s, ih (fun i hi => h i (by omega)), (h n (by omega)).1, (h n (by omega)).2]
theorem rs_G_mem (S : Nat → Nat) (A : Nat → Int32) (n s : Nat) (a : Int32) : a ∈ rs_G S A n s ↔ ∃ i, i < n ∧ S i = s ∧ A i = a := by
  induction n with
  | zero => constructor
            · intro h; cases h
            · rintro ⟨i, hi, _⟩; omega
  | succ n ih =>
    rw [rs_G_s]
    constructor
    · intro h
      by_cases e : S n = s
      · rw [if_pos e] at h
        rcases List.mem_cons.mp h with h | h
        · exact ⟨n, by omega, e, h.symm⟩
        · obtain ⟨i, hi, q⟩ := ih.mp h
          exact ⟨i, by omega, q⟩
      · rw [if_neg e] at h
        obtain ⟨i, hi, q⟩ := ih.mp h
        exact ⟨i, by omega, q⟩
    · rintro ⟨i, hi, e1, e2⟩
      by_cases q : i = n
      · subst q; rw [if_pos e1]; exact List.mem_cons.mpr (Or.inl e2.symm)
      · have m := ih.mpr ⟨i, by omega, e1, e2⟩
        by_cases e : S n = s
        · rw [if_pos e]; exact List.mem_cons.mpr (Or.inr m)
        · rw [if_neg e]; exact m
theorem rs_G_len (S : Nat → Nat) (A : Nat → Int32) (n s : Nat) : (rs_G S A n s).length ≤ n := by
  induction n with
  | zero => exact Nat.le_refl 0
  | succ n ih =>
    rw [rs_G_s]
    by_cases e : S n = s
    · rw [if_pos e, List.length_cons]; omega
    · rw [if_neg e]; omega
def rs_W (w : Int32 → Int32) : List Int32 → Int32
  | [] => 0
  | a :: l => rs_W w l + w a
theorem rs_W_len (l : List Int32) : rs_W (fun _ => 1) l = nI l.length := by
  induction l with
  | nil => rfl
  | cons a l ih => rw [List.length_cons, ← nI_1, ← ih]; rfl
/-- the exchange: X sums over the sorts, Y over the events -/
theorem rs_fub (S : Nat → Nat) (A : Nat → Int32) (w : Int32 → Int32) (P : Nat → Bool) (M n : Nat) (h : ∀ i, i < n → S i < M) :
    rs_S (fun s => if P s = true then rs_W w (rs_G S A n s) else 0) M = rs_S (fun i => if P (S i) = true then w (A i) else 0) n := by
  induction n with
  | zero => 
    refine rs_S_zero M (fun s _ => ?_)
    by_cases p : P s = true
    · rw [if_pos p]; rfl
    · rw [if_neg p]
  | succ n ih =>
    rw [rs_S_s, ← ih (fun i hi => h i (by omega))]
    have e : rs_S (fun s => if P s = true then rs_W w (rs_G S A (n + 1) s) else 0) M
        = rs_S (fun s => (if P s = true then rs_W w (rs_G S A n s) else 0) + (if S n = s then (if P (S n) = true then w (A n) else 0) else 0)) M := by
      refine rs_S_congr M (fun s _ => ?_)
      rw [rs_G_s]
      by_cases q : S n = s
      · subst q
        by_cases p : P (S n) = true
        · simp only [if_pos p, if_true]; rfl
        · simp only [if_neg p, if_true]; rfl
      · simp only [if_neg q, Int32.add_zero]
    rw [e, rs_S_add, rs_S_one (S n) _ M (h n (by omega))]
/-! how many below n, as a natural number -/
def rs_N (P : Nat → Bool) : Nat → Nat
  | 0 => 0
  | n + 1 => rs_N P n + (if P n = true then 1 else 0)
theorem rs_N_s (P : Nat → Bool) (n : Nat) : rs_N P (n + 1) = rs_N P n + (if P n = true then 1 else 0) := rfl
theorem rs_N_le (P : Nat → Bool) (n : Nat) : rs_N P n ≤ n := by
  induction n with
  | zero => exact Nat.le_refl 0
  | succ n ih => rw [rs_N_s]; by_cases p : P n = true
                 · rw [if_pos p]; omega
                 · rw [if_neg p]; omega
theorem rs_N_pos (P : Nat → Bool) (n : Nat) : 0 < rs_N P n ↔ ∃ i, i < n ∧ P i = true := by
  induction n with
  | zero => constructor
            · intro h; cases h
            · rintro ⟨i, hi, _⟩; omega
  | succ n ih =>
    rw [rs_N_s]
    by_cases p : P n = true
    · rw [if_pos p]
      exact ⟨fun _ => ⟨n, by omega, p⟩, fun _ => by omega⟩
    · rw [if_neg p, Nat.add_zero, ih]
      constructor
      · rintro ⟨i, hi, q⟩; exact ⟨i, by omega, q⟩
      · rintro ⟨i, hi, q⟩
        by_cases e : i = n
        · subst e; exact absurd q p
        · exact ⟨i, by omega, q⟩
theorem rs_N_S (P : Nat → Bool) (n : Nat) : rs_S (fun i => if P i = true then 1 else 0) n = nI (rs_N P n) := by
  induction n with
  | zero => rfl
  | succ n ih =>
    rw [rs_S_s, rs_N_s, ih]
    by_cases p : P n = true
    · rw [if_pos p, if_pos p, nI_1]
    · rw [if_neg p, if_neg p, Int32.add_zero, Nat.add_zero]
/-! least and greatest of a list -/
def rs_Mn (l : List Int32) (m : Int32) : Prop := m ∈ l ∧ ∀ a, a ∈ l → m ≤ a
def rs_Mx (l : List Int32) (m : Int32) : Prop := m ∈ l ∧ ∀ a, a ∈ l → a ≤ m
theorem rs_Mn_1 (a : Int32) : rs_Mn [a] a := ⟨List.mem_singleton.mpr rfl, fun b hb => by rw [List.mem_singleton.mp hb]; exact Int32.le_refl _⟩
theorem rs_Mx_1 (a : Int32) : rs_Mx [a] a := ⟨List.mem_singleton.mpr rfl, fun b hb => by rw [List.mem_singleton.mp hb]; exact Int32.le_refl _⟩
theorem rs_Mn_lo {l : List Int32} {m a : Int32} (h : rs_Mn l m) (q : a < m) : rs_Mn (a :: l) a :=
  ⟨List.mem_cons_self, fun b hb => by
    rcases List.mem_cons.mp hb with e | hb
    · rw [e]; exact Int32.le_refl _
    · exact Int32.le_trans (Int32.le_of_lt q) (h.2 b hb)⟩
theorem rs_Mn_hi {l : List Int32} {m a : Int32} (h : rs_Mn l m) (q : ¬ a < m) : rs_Mn (a :: l) m :=
  ⟨List.mem_cons_of_mem _ h.1, fun b hb => by
    rcases List.mem_cons.mp hb with e | hb
    · rw [e]; exact Int32.not_lt.mp q
    · exact h.2 b hb⟩
theorem rs_Mx_hi {l : List Int32} {m a : Int32} (h : rs_Mx l m) (q : m < a) : rs_Mx (a :: l) a :=
  ⟨List.mem_cons_self, fun b hb => by
    rcases List.mem_cons.mp hb with e | hb
    · rw [e]; exact Int32.le_refl _
    · exact Int32.le_trans (h.2 b hb) (Int32.le_of_lt q)⟩
theorem rs_Mx_lo {l : List Int32} {m a : Int32} (h : rs_Mx l m) (q : ¬ m < a) : rs_Mx (a :: l) m :=
  ⟨List.mem_cons_of_mem _ h.1, fun b hb => by
    rcases List.mem_cons.mp hb with e | hb
    · rw [e]; exact Int32.not_lt.mp q
    · exact h.2 b hb⟩
end
section
/-! bools as ints; the filter as a function of the sort, on both sides -/
def rs_b (t : Bool) : Int32 := if t = true then 1 else 0
theorem rs_b_0 (t : Bool) : rs_b t = 0 ↔ t = false := by
  cases t
  · exact ⟨fun _ => rfl, fun _ => rfl⟩
  · exact ⟨fun z => absurd z (by decide +kernel), fun z => nomatch z⟩
theorem rs_nb0 : vp_nar .boolean 0 = 0 := by decide +kernel
theorem rs_nb1 : vp_nar .boolean 1 = 1 := by decide +kernel
theorem rs_n10 : ¬ (1 : Int32) = 0 := by decide +kernel
def rs_m (m : Nat) (a b : Bool) : Bool := if m = 0 then a && b else if m = 1 then a || b else if m = 2 then !(a && b) else !a && !b
def rs_p (F s : Nat) : Bool := (decide (F / 1024 % 16 ≤ s / 16) && decide (s / 16 ≤ F / 16384 % 16)) && rs_m (F / 256 % 4) (decide (F % 16 / 2 ^ (s / 4 % 4) % 2 = 1)) (decide (F / 16 % 16 / 2 ^ (s % 4) % 2 = 1))
def rs_g (b s : Nat) : Nat := if b = 0 then s / 16 else if b = 1 then s / 4 % 4 else s % 4
theorem rs_g_lt {b s : Nat} (hs : s < 256) : rs_g b s < 16 := by
  unfold rs_g
  by_cases h : b = 0
  · rw [if_pos h]; omega
  · rw [if_neg h]
    by_cases h' : b = 1
    · rw [if_pos h']; omega
    · rw [if_neg h']; omega
theorem rs_sm : ∀ k, k < 8 → ((nI k &&& 31).toBitVec.smod 32).toNat = k := by decide +kernel
theorem rs_bit {a k : Nat} (ha : a < 2 ^ 31) (hk : k < 8) : ((nI a >>> (nI k &&& 31)) &&& 1) = nI (a / 2 ^ k % 2) := by
  have h2 : a / 2 ^ k ≤ a := Nat.div_le_self _ _
  rw [pk_shrN ha _ k (rs_sm k hk), pk_andN (by omega) 1 (by decide +kernel)]
theorem rs_bit1 {a k : Nat} (ha : a < 2 ^ 31) (hk : k < 8) : ((nI a >>> (nI k &&& 31)) &&& 1) = 1 ↔ a / 2 ^ k % 2 = 1 := by
  rw [rs_bit ha hk]
  exact nI_eq (b := 1) (by omega) (by omega)
theorem rs_go (post : Int32 → Prop) (s b : Nat) (hs : s < 256) (hb : b < 3) (h : post (nI (rs_g b s))) : wpX_groupOf post (nI s) (nI b) := by
  have e0 : nI s / 16 = nI (s / 16) := pk_div (d := 16) (by omega) (by omega) (by omega)
  have e1 : nI s / 4 = nI (s / 4) := pk_div (d := 4) (by omega) (by omega) (by omega)
  have e2 : nI (s / 4) - nI (s / 4) / 4 * 4 = nI (s / 4 % 4) := pk_rem (d := 4) (by omega) (by omega) (by omega)
  have e3 : nI s - nI s / 4 * 4 = nI (s % 4) := pk_rem (d := 4) (by omega) (by omega) (by omega)
  unfold wpX_groupOf
  rcases (by omega : b = 0 ∨ b = 1 ∨ b = 2) with rfl | rfl | rfl
  · exact br_t rfl ⟨by decide, by rw [e0]; exact h⟩
  · exact br_f (by decide +kernel) (br_t rfl ⟨by decide, by decide, by rw [e1, e2]; exact h⟩)
  · exact br_f (by decide +kernel) (br_f (by decide +kernel) ⟨by decide, by rw [e3]; exact h⟩)
theorem rs_hour (post : Int32 → Prop) (s F : Nat) (hs : s < 256) (hF : F < 262144)
    (h1 : F / 1024 % 16 ≤ s / 16 ∧ s / 16 ≤ F / 16384 % 16 → post 1) (h0 : ¬ (F / 1024 % 16 ≤ s / 16 ∧ s / 16 ≤ F / 16384 % 16) → post 0) : wpX_hourPasses post (nI s) (nI F) := by
  have e1 : nI F / 1024 = nI (F / 1024) := pk_div (d := 1024) (by omega) (by omega) (by omega)
  have e2 : nI (F / 1024) - nI (F / 1024) / 16 * 16 = nI (F / 1024 % 16) := pk_rem (d := 16) (by omega) (by omega) (by omega)
  have e3 : nI F / 16384 = nI (F / 16384) := pk_div (d := 16384) (by omega) (by omega) (by omega)
  have e4 : nI (F / 16384) - nI (F / 16384) / 16 * 16 = nI (F / 16384 % 16) := pk_rem (d := 16) (by omega) (by omega) (by omega)
  unfold wpX_hourPasses
  refine rs_go _ s 0 hs (by omega) ?_
  refine ⟨by decide, by decide, nm_r (e' := nI (F / 1024 % 16)) (by rw [e1, e2]) ⟨by decide, by decide, nm_r (e' := nI (F / 16384 % 16)) (by rw [e3, e4]) ?_⟩⟩
  exact pk_lt (s / 16) (F / 1024 % 16) (fun y => h0 (by omega)) (fun y => pk_lt (F / 16384 % 16) (s / 16) (fun y' => h0 (by omega)) (fun y' => h1 (by omega)))
theorem rs_68 (post : Int32 → Prop) (m : Nat) (hm : m < 4) (a b : Bool) (h : post (rs_b (rs_m m a b))) : wX_placeAndKindPass_68 post (nI m) (rs_b a) (rs_b b) := by
  unfold wX_placeAndKindPass_68
  have n1 : nI 1 = 1 := rfl
  have n2 : nI 2 = 2 := rfl
  have n3 : nI 3 = 3 := rfl
  have t20 : ¬ (2 : Int32) = 0 := by decide +kernel
  have t21 : ¬ (2 : Int32) = 1 := by decide +kernel
  have t30 : ¬ (3 : Int32) = 0 := by decide +kernel
  have t31 : ¬ (3 : Int32) = 1 := by decide +kernel
  have t32 : ¬ (3 : Int32) = 2 := by decide +kernel
  rcases (by omega : m = 0 ∨ m = 1 ∨ m = 2 ∨ m = 3) with rfl | rfl | rfl | rfl <;> cases a <;> cases b <;>
    simp only [nI_0, n1, n2, n3, rs_b, if_true, if_false, Bool.false_eq_true, rs_n10, t20, t21, t30, t31, t32, not_true, not_false_iff, true_imp_iff, false_imp_iff, and_true, true_and, forall_const] <;> exact h
theorem rs_51 (post : Int32 → Prop) (k B m : Nat) (hk : k < 8) (hB : B < 2 ^ 31) (hm : m < 4) (a : Bool) (h : post (rs_b (rs_m m a (decide (B / 2 ^ k % 2 = 1))))) : wX_placeAndKindPass_51 post (nI k) (nI B) (nI m) (rs_b a) := by
  unfold wX_placeAndKindPass_51
  refine br_c (fun y => ?_) (fun y => ?_)
  · rw [rs_bit1 hB hk] at y
    rw [decide_eq_true y] at h
    exact rs_68 post m hm a true h
  · rw [rs_bit1 hB hk] at y
    rw [decide_eq_false y] at h
    exact rs_68 post m hm a false h
theorem rs_pk (post : Int32 → Prop) (s F : Nat) (hs : s < 256) (hF : F < 262144)
    (h : post (rs_b (rs_m (F / 256 % 4) (decide (F % 16 / 2 ^ (s / 4 % 4) % 2 = 1)) (decide (F / 16 % 16 / 2 ^ (s % 4) % 2 = 1))))) : wpX_placeAndKindPass post (nI s) (nI F) := by
  have e0 : nI F - nI F / 16 * 16 = nI (F % 16) := pk_rem (d := 16) (by omega) (by omega) (by omega)
  have e1 : nI F / 16 = nI (F / 16) := pk_div (d := 16) (by omega) (by omega) (by omega)
  have e2 : nI (F / 16) - nI (F / 16) / 16 * 16 = nI (F / 16 % 16) := pk_rem (d := 16) (by omega) (by omega) (by omega)
  have e3 : nI F / 256 = nI (F / 256) := pk_div (d := 256) (by omega) (by omega) (by omega)
  have e4 : nI (F / 256) - nI (F / 256) / 4 * 4 = nI (F / 256 % 4) := pk_rem (d := 4) (by omega) (by omega) (by omega)
  unfold wpX_placeAndKindPass
  refine rs_go _ s 1 hs (by omega) ?_
  refine rs_go _ s 2 hs (by omega) ?_
  refine ⟨by decide, nm_r (e' := nI (F % 16)) e0 ⟨by decide, by decide, nm_r (e' := nI (F / 16 % 16)) (by rw [e1, e2]) ⟨by decide, by decide, nm_r (e' := nI (F / 256 % 4)) (by rw [e3, e4]) ?_⟩⟩⟩
  show (((nI (F % 16) >>> (nI (s / 4 % 4) &&& 31)) &&& 1) = 1 → wX_placeAndKindPass_51 post (nI (s % 4)) (nI (F / 16 % 16)) (nI (F / 256 % 4)) 1) ∧ (¬ ((nI (F % 16) >>> (nI (s / 4 % 4) &&& 31)) &&& 1) = 1 → wX_placeAndKindPass_51 post (nI (s % 4)) (nI (F / 16 % 16)) (nI (F / 256 % 4)) 0)
  refine br_c (fun y => ?_) (fun y => ?_)
  · rw [rs_bit1 (by omega) (by omega)] at y
    rw [decide_eq_true y] at h
    exact rs_51 post (s % 4) (F / 16 % 16) (F / 256 % 4) (by omega) (by omega) (by omega) true h
  · rw [rs_bit1 (by omega) (by omega)] at y
    rw [decide_eq_false y] at h
    exact rs_51 post (s % 4) (F / 16 % 16) (F / 256 % 4) (by omega) (by omega) (by omega) false h
def rs_Q (c : Nat → Int32) (F s : Nat) : Bool := decide (¬ c s ≤ 0) && rs_p F s
theorem rs_hp (post : Int32 → Prop) (e t : Int32) (c w l g gc gs : Nat → Int32) (s F : Nat) (hs : s < 256) (hF : F < 262144)
    (h1 : rs_Q c F s = true → post 1) (h0 : rs_Q c F s = false → post 0) : wpX_hasPassing post (e, t, c, w, l, g, gc, gs) (nI s) (nI F) := by
  unfold wpX_hasPassing
  dsimp only
  refine ⟨vp_in_nI hs (by omega), ?_⟩
  rw [nI_clamp (by omega)]
  refine br_c (fun y => h0 ?_) (fun y => ?_)
  · unfold rs_Q
    rw [decide_eq_false (fun n => n y), Bool.false_and]
  · have q1 : rs_Q c F s = rs_p F s := by
      unfold rs_Q
      rw [decide_eq_true y, Bool.true_and]
    rw [q1] at h1 h0
    refine rs_hour _ s F hs hF (fun k => ?_) (fun k => ?_)
    · have q2 : rs_p F s = rs_m (F / 256 % 4) (decide (F % 16 / 2 ^ (s / 4 % 4) % 2 = 1)) (decide (F / 16 % 16 / 2 ^ (s % 4) % 2 = 1)) := by
        unfold rs_p
        rw [decide_eq_true k.1, decide_eq_true k.2, Bool.true_and, Bool.true_and]
      rw [q2] at h1 h0
      refine br_f rs_n10 ?_
      refine rs_pk _ s F hs hF ?_
      cases hm : rs_m (F / 256 % 4) (decide (F % 16 / 2 ^ (s / 4 % 4) % 2 = 1)) (decide (F / 16 % 16 / 2 ^ (s % 4) % 2 = 1))
      · exact br_t rfl (h0 hm)
      · exact br_f rs_n10 (h1 hm)
    · refine br_t rfl (h0 ?_)
      unfold rs_p
      by_cases k1 : F / 1024 % 16 ≤ s / 16
      · rw [decide_eq_false (p := s / 16 ≤ F / 16384 % 16) (fun k2 => k ⟨k1, k2⟩), Bool.and_false, Bool.false_and]
      · rw [decide_eq_false k1, Bool.false_and, Bool.false_and]
end
section
/-! the reference's side of the filter -/
def rs_ym (m : Int32) (a b : Bool) : Bool := if m = 0 then a && b else if m = 1 then a || b else if m = 2 then !(a && b) else !a && !b
def rs_yp (f h p q : Int32) : Bool := (decide (¬ h < ((f >>> ((10 : Int32) &&& 31)) &&& 15)) && decide (¬ (f >>> ((14 : Int32) &&& 31)) < h)) && rs_ym ((f >>> ((8 : Int32) &&& 31)) &&& 3) (decide (((f >>> (p &&& 31)) &&& 1) = 1)) (decide (((f >>> ((4 + q) &&& 31)) &&& 1) = 1))
theorem rs_y85 (post : Int32 → Prop) (m : Int32) (x y t : Bool) (z : Int32) (h p q a hb sb ob : Nat → Int32) (k : post (rs_b (t && rs_ym m x y))) : wY_passes_85 post m (rs_b x) (rs_b y) (rs_b t) z h p q a hb sb ob := by
  unfold wY_passes_85 wY_passes_105 wY_passes_124 wY_passes_147 wY_passes_169 wY_passes_170
  unfold rs_ym at k
  by_cases m0 : m = 0
  · refine br_t m0 ?_
    rw [if_pos m0] at k
    cases x <;> cases y <;> cases t <;>
      simp only [rs_b, if_true, if_false, Bool.false_eq_true, rs_n10, not_true, not_false_iff, true_imp_iff, false_imp_iff, and_true, true_and, forall_const] <;> exact k
  · refine br_f m0 ?_
    rw [if_neg m0] at k
    by_cases m1 : m = 1
    · refine br_t m1 ?_
      rw [if_pos m1] at k
      cases x <;> cases y <;> cases t <;>
        simp only [rs_b, if_true, if_false, Bool.false_eq_true, rs_n10, not_true, not_false_iff, true_imp_iff, false_imp_iff, and_true, true_and, forall_const] <;> exact k
    · refine br_f m1 ?_
      rw [if_neg m1] at k
      by_cases m2 : m = 2
      · refine br_t m2 ?_
        rw [if_pos m2] at k
        cases x <;> cases y <;> cases t <;>
          simp only [rs_b, if_true, if_false, Bool.false_eq_true, rs_n10, not_true, not_false_iff, true_imp_iff, false_imp_iff, and_true, true_and, forall_const] <;> exact k
      · refine br_f m2 ?_
        rw [if_neg m2] at k
        cases x <;> cases y <;> cases t <;>
          simp only [rs_b, if_true, if_false, Bool.false_eq_true, rs_n10, not_true, not_false_iff, true_imp_iff, false_imp_iff, and_true, true_and, forall_const] <;> exact k
theorem rs_y49 (post : Int32 → Prop) (f m : Int32) (i : Nat) (hi : i < 400) (x y : Bool) (z : Int32) (h p q a hb sb ob : Nat → Int32)
    (k : post (rs_b ((decide (¬ h i < ((f >>> ((10 : Int32) &&& 31)) &&& 15)) && decide (¬ (f >>> ((14 : Int32) &&& 31)) < h i)) && rs_ym m x y))) : wY_passes_49 post f (nI i) m (rs_b x) (rs_b y) z h p q a hb sb ob := by
  unfold wY_passes_49 wY_passes_84
  refine ⟨vp_in_nI hi (by omega), ?_⟩
  rw [nI_clamp (by omega)]
  refine br_c (fun y1 => ?_) (fun y1 => ⟨vp_in_nI hi (by omega), br_c (fun y2 => ?_) (fun y2 => ?_)⟩)
  · rw [decide_eq_false (fun n => n y1), Bool.false_and] at k
    exact rs_y85 post m x y false z h p q a hb sb ob k
  · rw [decide_eq_true y1, decide_eq_false (fun n => n y2), Bool.true_and] at k
    exact rs_y85 post m x y false z h p q a hb sb ob k
  · rw [decide_eq_true y1, decide_eq_true y2, Bool.true_and] at k
    exact rs_y85 post m x y true z h p q a hb sb ob k
theorem rs_y26 (post : Int32 → Prop) (f m : Int32) (i : Nat) (hi : i < 400) (x : Bool) (z : Int32) (h p q a hb sb ob : Nat → Int32)
    (k : post (rs_b ((decide (¬ h i < ((f >>> ((10 : Int32) &&& 31)) &&& 15)) && decide (¬ (f >>> ((14 : Int32) &&& 31)) < h i)) && rs_ym m x (decide (((f >>> ((4 + q i) &&& 31)) &&& 1) = 1))))) : wY_passes_26 post f (nI i) m (rs_b x) z h p q a hb sb ob := by
  unfold wY_passes_26
  refine ⟨vp_in_nI hi (by omega), ?_⟩
  rw [nI_clamp (by omega)]
  refine br_c (fun y => ?_) (fun y => ?_)
  · rw [decide_eq_true y] at k
    exact rs_y49 post f m i hi x true z h p q a hb sb ob k
  · rw [decide_eq_false y] at k
    exact rs_y49 post f m i hi x false z h p q a hb sb ob k
theorem rs_yps (post : Int32 → Prop) (f : Int32) (i : Nat) (hi : i < 400) (z : Int32) (h p q a hb sb ob : Nat → Int32)
    (h1 : rs_yp f (h i) (p i) (q i) = true → post 1) (h0 : rs_yp f (h i) (p i) (q i) = false → post 0) : wpY_passes post (z, h, p, q, a, hb, sb, ob) f (nI i) := by
  have k : post (rs_b (rs_yp f (h i) (p i) (q i))) := by
    cases e : rs_yp f (h i) (p i) (q i)
    · exact h0 e
    · exact h1 e
  unfold rs_yp at k
  unfold wpY_passes
  dsimp only
  refine nm_e ⟨vp_in_nI hi (by omega), ?_⟩
  rw [nI_clamp (by omega)]
  refine br_c (fun y => ?_) (fun y => ?_)
  · rw [decide_eq_true y] at k
    exact rs_y26 post f _ i hi true z h p q a hb sb ob k
  · rw [decide_eq_false y] at k
    exact rs_y26 post f _ i hi false z h p q a hb sb ob k
theorem rs_ym_m {m : Nat} (hm : m < 4) (a b : Bool) : rs_ym (nI m) a b = rs_m m a b := by
  unfold rs_ym rs_m
  rcases (by omega : m = 0 ∨ m = 1 ∨ m = 2 ∨ m = 3) with rfl | rfl | rfl | rfl <;> rfl
theorem rs_lo {F k : Nat} (hk : k < 4) : F / 2 ^ k % 2 = F % 16 / 2 ^ k % 2 := by
  rcases (by omega : k = 0 ∨ k = 1 ∨ k = 2 ∨ k = 3) with rfl | rfl | rfl | rfl <;> omega
theorem rs_hi {F k : Nat} (hk : k < 4) : F / 2 ^ (4 + k) % 2 = F / 16 % 16 / 2 ^ k % 2 := by
  rcases (by omega : k = 0 ∨ k = 1 ∨ k = 2 ∨ k = 3) with rfl | rfl | rfl | rfl <;> omega
theorem rs_yp_p {F s : Nat} (hF : F < 262144) (hs : s < 256) : rs_yp (nI F) (nI (s / 16)) (nI (s / 4 % 4)) (nI (s % 4)) = rs_p F s := by
  have hF' : F < 2 ^ 31 := by omega
  have a1 : (nI F >>> ((10 : Int32) &&& 31)) &&& 15 = nI (F / 1024 % 16) := by
    rw [pk_shrN hF' _ 10 (by decide +kernel), pk_andN (by omega) 4 (by decide +kernel)]
  have a2 : nI F >>> ((14 : Int32) &&& 31) = nI (F / 16384) := by
    rw [pk_shrN hF' _ 14 (by decide +kernel)]
  have a3 : (nI F >>> ((8 : Int32) &&& 31)) &&& 3 = nI (F / 256 % 4) := by
    rw [pk_shrN hF' _ 8 (by decide +kernel), pk_andN (by omega) 2 (by decide +kernel)]
  have a4 : (4 : Int32) + nI (s % 4) = nI (4 + s % 4) := nI_add 4 (s % 4)
  have b1 : decide (¬ nI (s / 16) < nI (F / 1024 % 16)) = decide (F / 1024 % 16 ≤ s / 16) := by
    refine decide_eq_decide.mpr ?_
    rw [nI_ltI (by omega) (by omega)]
    omega
  have b2 : decide (¬ nI (F / 16384) < nI (s / 16)) = decide (s / 16 ≤ F / 16384 % 16) := by
    refine decide_eq_decide.mpr ?_
    rw [nI_ltI (by omega) (by omega)]
    omega
  have b3 : decide (((nI F >>> (nI (s / 4 % 4) &&& 31)) &&& 1) = 1) = decide (F % 16 / 2 ^ (s / 4 % 4) % 2 = 1) := by
    refine decide_eq_decide.mpr ?_
    rw [rs_bit1 hF' (by omega), rs_lo (by omega)]
  have b4 : decide (((nI F >>> (nI (4 + s % 4) &&& 31)) &&& 1) = 1) = decide (F / 16 % 16 / 2 ^ (s % 4) % 2 = 1) := by
    refine decide_eq_decide.mpr ?_
    rw [rs_bit1 hF' (by omega), rs_hi (by omega)]
  unfold rs_yp rs_p
  rw [a1, a2, a3, a4, b1, b2, b3, b4, rs_ym_m (by omega)]
/-! filter and grouping checks -/
theorem rs_ff (f : Int32) : (∃ F, F < 262144 ∧ f = nI F) ∨ (f < 0 ∨ 262143 < f) := by
  by_cases h0 : f < 0
  · exact Or.inr (Or.inl h0)
  · by_cases h1 : 262143 < f
    · exact Or.inr (Or.inr h1)
    · obtain ⟨j, hj, e⟩ := nI_of2 (n := 262143) (by decide +kernel) h0 (Int32.not_lt.mp h1)
      exact Or.inl ⟨j, by omega, e⟩
theorem rs_xf1 (post : Int32 → Prop) {F : Nat} (hF : F < 262144) (k : post 1) : wpX_isFilter post (nI F) := by
  unfold wpX_isFilter
  exact pk_lt F 0 (fun y => by omega) (fun _ => pk_lt 262143 F (fun y => by omega) (fun _ => k))
theorem rs_xf0 (post : Int32 → Prop) {f : Int32} (hf : f < 0 ∨ 262143 < f) (k : post 0) : wpX_isFilter post f := by
  unfold wpX_isFilter
  rcases hf with h | h
  · exact br_t h k
  · exact br_c (fun _ => k) (fun _ => br_t h k)
theorem rs_yf1 (post : Int32 → Prop) {F : Nat} (hF : F < 262144) (v : SY) (k : post 1) : wpY_filter post v (nI F) := by
  unfold wpY_filter
  exact pk_lt F 0 (fun y => by omega) (fun _ => pk_le 262144 F (fun y => by omega) (fun _ => k))
theorem rs_yf0 (post : Int32 → Prop) {f : Int32} (hf : f < 0 ∨ 262143 < f) (v : SY) (k : post 0) : wpY_filter post v f := by
  unfold wpY_filter
  rcases hf with h | h
  · exact br_t h k
  · refine br_c (fun _ => k) (fun y => br_c (fun _ => k) (fun y2 => ?_))
    obtain ⟨j, hj, rfl⟩ := nI_of y
    exact absurd ((nI_ltI (a := 262143) (by omega) hj).mp h) (fun l => y2 ((nI_leI (a := 262144) (by omega) hj).mpr (by omega)))
theorem rs_bb (f : Int32) : (∃ b, b < 3 ∧ f = nI b) ∨ (f < 0 ∨ 2 < f) := by
  by_cases h0 : f < 0
  · exact Or.inr (Or.inl h0)
  · by_cases h1 : 2 < f
    · exact Or.inr (Or.inr h1)
    · obtain ⟨j, hj, e⟩ := nI_of2 (n := 2) (by decide +kernel) h0 (Int32.not_lt.mp h1)
      exact Or.inl ⟨j, by omega, e⟩
theorem rs_xg1 (post : Int32 → Prop) {b : Nat} (hb : b < 3) (k : post 1) : wpX_isGrouping post (nI b) := by
  unfold wpX_isGrouping
  exact pk_lt b 0 (fun y => by omega) (fun _ => pk_lt 2 b (fun y => by omega) (fun _ => k))
theorem rs_xg0 (post : Int32 → Prop) {f : Int32} (hf : f < 0 ∨ 2 < f) (k : post 0) : wpX_isGrouping post f := by
  unfold wpX_isGrouping
  rcases hf with h | h
  · exact br_t h k
  · exact br_c (fun _ => k) (fun _ => br_t h k)
end
section
/-! the relation: n listed events (n ≤ 400) of sorts S i; for each sort X has count, sum, least and greatest of its group -/
def rs_ev (n : Nat) (S : Nat → Nat) (h p q a : Nat → Int32) : Prop := ∀ i, i < n → S i < 256 ∧ (-100 ≤ a i ∧ a i ≤ 100) ∧ h i = nI (S i / 16) ∧ p i = nI (S i / 4 % 4) ∧ q i = nI (S i % 4)
def rs_st (n : Nat) (S : Nat → Nat) (a c w l g : Nat → Int32) : Prop := ∀ s, s < 256 → c s = nI (rs_G S a n s).length ∧ (rs_G S a n s ≠ [] → w s = rs_W (fun x => x) (rs_G S a n s) ∧ rs_Mn (rs_G S a n s) (l s) ∧ rs_Mx (rs_G S a n s) (g s))
def rs_mk (c : Nat → Int32) : Nat → Int32 := fun s => if c s ≤ 0 then 0 else 1
def rs_R (e t : Int32) (c w l g : Nat → Int32) (z : Int32) (h p q a : Nat → Int32) : Prop := ∃ (n : Nat) (S : Nat → Nat), n ≤ 400 ∧ e = nI n ∧ z = nI n ∧ t = rs_S (rs_mk c) 256 ∧ rs_ev n S h p q a ∧ rs_st n S a c w l g
/-- the relation at the head of a turn whose first cell is k: (u : SX) is (eventTotal, sortTotal, counts, sums, leasts, greatests, groupCounts, groupSums), (v : SY) is (size, hours, places, kinds, amounts, has, sums, sorts) -/
def i_Rel (_ : Nat) (u : SX) (v : SY) : Prop := rs_R u.1 u.2.1 u.2.2.1 u.2.2.2.1 u.2.2.2.2.1 u.2.2.2.2.2.1 v.1 v.2.1 v.2.2.1 v.2.2.2.1 v.2.2.2.2.1
theorem i_up {k : Nat} {u : SX} {v : SY} (h : i_Rel k u v) : i_Rel (k + 5) u v := h
theorem i_vc0 : wpX_init (fun u => wpY_init (fun v => i_Rel 0 u v)) := by
  unfold wpX_init wpY_init
  refine ⟨0, fun _ => 0, by omega, rfl, rfl, ?_, fun i hi => absurd hi (by omega), fun s hs => ⟨rfl, fun k => absurd rfl k⟩⟩
  exact (rs_S_zero 256 (fun i _ => if_pos (Int32.le_refl 0))).symm
theorem i_vc_seal {k : Nat} {u : SX} {v : SY} (I : i_Rel k u v) (hk : k + 5 ≤ 2560) : wpX_seal (fun u' => wpY_seal (fun v' => i_Rel (k + 5) u' v') v) u := by
  obtain ⟨e, t, c, w, l, g, gc, gs⟩ := u
  obtain ⟨z, h, p, q, a, hb, sb, ob⟩ := v
  exact I
theorem i_vc_events {k : Nat} {u : SX} {v : SY} (I : i_Rel k u v) (hk : k + 5 ≤ 2560) : wpX_events (fun r => wpY_events (fun r' => r' = r ∧ i_Rel (k + 5) u v) v) u := by
  obtain ⟨e, t, c, w, l, g, gc, gs⟩ := u
  obtain ⟨z, h, p, q, a, hb, sb, ob⟩ := v
  have J : i_Rel (k + 5) (e, t, c, w, l, g, gc, gs) (z, h, p, q, a, hb, sb, ob) := I
  obtain ⟨n, S, hn, e1, e2, _⟩ := I
  exact ⟨e2.trans e1.symm, J⟩
/-! what the relation says of counts and sums -/
theorem rs_cp {n : Nat} {S : Nat → Nat} {a c w l g : Nat → Int32} (hn : n ≤ 400) (hS : rs_st n S a c w l g) {s : Nat} (hs : s < 256) : c s ≤ 0 ↔ rs_G S a n s = [] := by
  have hl := rs_G_len S a n s
  rw [(hS s hs).1, ← List.length_eq_zero_iff]
  have k : nI (rs_G S a n s).length ≤ nI 0 ↔ (rs_G S a n s).length ≤ 0 := nI_leI (by omega) (by omega)
  rw [nI_0] at k
  rw [k]
  omega
theorem rs_ex {n : Nat} {S : Nat → Nat} {h p q a c w l g : Nat → Int32} (hn : n ≤ 400) (hE : rs_ev n S h p q a) (hS : rs_st n S a c w l g)
    (W : Int32 → Int32) (V : Nat → Int32) (hV : ∀ s, s < 256 → rs_G S a n s ≠ [] → V s = rs_W W (rs_G S a n s)) (P R : Nat → Bool)
    (hR : ∀ s, s < 256 → R s = (decide (¬ c s ≤ 0) && P s)) :
    rs_S (fun s => if R s = true then V s else 0) 256 = rs_S (fun i => if P (S i) = true then W (a i) else 0) n := by
  rw [← rs_fub S a W P 256 n (fun i hi => (hE i hi).1)]
  refine rs_S_congr 256 (fun s hs => ?_)
  rw [hR s hs]
  by_cases k : rs_G S a n s = []
  · rw [decide_eq_false (fun y => y ((rs_cp hn hS hs).mpr k)), Bool.false_and, k]
    by_cases y : P s = true
    · rw [if_pos y]; rfl
    · rw [if_neg y]; rfl
  · rw [decide_eq_true (p := ¬ c s ≤ 0) (fun y => k ((rs_cp hn hS hs).mp y)), Bool.true_and, hV s hs k]
theorem rs_Vc {n : Nat} {S : Nat → Nat} {a c w l g : Nat → Int32} (hS : rs_st n S a c w l g) : ∀ s, s < 256 → rs_G S a n s ≠ [] → c s = rs_W (fun _ => 1) (rs_G S a n s) :=
  fun s hs _ => by rw [rs_W_len]; exact (hS s hs).1
theorem rs_Vw {n : Nat} {S : Nat → Nat} {a c w l g : Nat → Int32} (hS : rs_st n S a c w l g) : ∀ s, s < 256 → rs_G S a n s ≠ [] → w s = rs_W (fun x => x) (rs_G S a n s) :=
  fun s hs k => ((hS s hs).2 k).1
theorem rs_py {n : Nat} {S : Nat → Nat} {h p q a : Nat → Int32} (hE : rs_ev n S h p q a) {F : Nat} (hF : F < 262144) {i : Nat} (hi : i < n) : rs_yp (nI F) (h i) (p i) (q i) = rs_p F (S i) := by
  obtain ⟨h1, _, h2, h3, h4⟩ := hE i hi
  rw [h2, h3, h4]
  exact rs_yp_p hF h1
theorem rs_bt {t : Bool} (k : ¬ t = true) : t = false := by
  cases t
  · rfl
  · exact absurd rfl k
theorem rs_f_t {P : Bool} {x y : Int32} (k : P = true) : (if P = true then x else y) = x := if_pos k
theorem rs_f_f {P : Bool} {x y : Int32} (k : P = false) : (if P = true then x else y) = y := if_neg (by rw [k]; exact Bool.false_ne_true)
end
section
/-! count, sum -/
theorem rs_xcount (post : Int32 → Prop) (F : Nat) (hF : F < 262144) (e t : Int32) (c w l g gc gs f : Nat → Int32)
    (f1 : ∀ s, rs_Q c F s = true → f s = c s) (f0 : ∀ s, rs_Q c F s = false → f s = 0) (hp : post (rs_S f 256)) :
    ∀ d j : Nat, j + d = 256 → wX_count_13 post (nI F) e t c w l g gc gs (d + 1) (rs_S f j) (nI j) := by
  intro d
  induction d with
  | zero =>
    intro j hj
    have hj' : j = 256 := by omega
    subst hj'
    exact br_t (Int32.le_refl _) hp
  | succ d ih =>
    intro j hj
    have hj' : j < 256 := by omega
    refine br_f (nI_ge (b := 256) hj' (by omega)) ?_
    refine rs_hp _ e t c w l g gc gs j F hj' hF (fun k => ?_) (fun k => ?_)
    · refine br_f rs_n10 ⟨vp_in_nI hj' (by omega), nm_r (e' := rs_S f (j + 1)) ?_ (nm_r (nI_1 j) (ih (j + 1) (by omega)))⟩
      rw [nI_clamp (by omega), rs_S_s, f1 j k]
    · refine br_t rfl (nm_r (nI_1 j) ?_)
      have := ih (j + 1) (by omega)
      rw [rs_S_s, f0 j k, Int32.add_zero] at this
      exact this
theorem rs_xsum (post : Int32 → Prop) (F : Nat) (hF : F < 262144) (e t : Int32) (c w l g gc gs f : Nat → Int32)
    (f1 : ∀ s, rs_Q c F s = true → f s = w s) (f0 : ∀ s, rs_Q c F s = false → f s = 0) (hp : post (rs_S f 256)) :
    ∀ d j : Nat, j + d = 256 → wX_sum_14 post (nI F) e t c w l g gc gs (d + 1) (rs_S f j) (nI j) := by
  intro d
  induction d with
  | zero =>
    intro j hj
    have hj' : j = 256 := by omega
    subst hj'
    exact br_t (Int32.le_refl _) hp
  | succ d ih =>
    intro j hj
    have hj' : j < 256 := by omega
    refine br_f (nI_ge (b := 256) hj' (by omega)) ?_
    refine rs_hp _ e t c w l g gc gs j F hj' hF (fun k => ?_) (fun k => ?_)
    · refine br_f rs_n10 ⟨vp_in_nI hj' (by omega), nm_r (e' := rs_S f (j + 1)) ?_ (nm_r (nI_1 j) (ih (j + 1) (by omega)))⟩
      rw [nI_clamp (by omega), rs_S_s, f1 j k]
    · refine br_t rfl (nm_r (nI_1 j) ?_)
      have := ih (j + 1) (by omega)
      rw [rs_S_s, f0 j k, Int32.add_zero] at this
      exact this
theorem rs_ycount (post : Int32 → Prop) (x : Int32) (n : Nat) (hn : n ≤ 400) (h p q a hb sb ob f : Nat → Int32)
    (f1 : ∀ i, rs_yp x (h i) (p i) (q i) = true → f i = 1) (f0 : ∀ i, rs_yp x (h i) (p i) (q i) = false → f i = 0)
    (hp : wpY_filter (fun r_2 => (((r_2 = 0 → (post (-1))) ∧ (¬ r_2 = 0 → (post (rs_S f n)))))) (nI n, h, p, q, a, hb, sb, ob) x) :
    ∀ d j : Nat, j + d = n → wY_count_4 post x (nI n) h p q a hb sb ob (d + 1) (rs_S f j) (nI j) := by
  intro d
  induction d with
  | zero =>
    intro j hj
    have hj' : j = n := by omega
    subst hj'
    exact br_t (Int32.le_refl _) hp
  | succ d ih =>
    intro j hj
    have hj' : j < n := by omega
    refine br_f (nI_ge hj' (by omega)) ?_
    refine rs_yps _ x j (by omega) (nI n) h p q a hb sb ob (fun k => ?_) (fun k => ?_)
    · refine br_f rs_n10 (nm_r (e' := rs_S f (j + 1)) ?_ (nm_r (nI_1 j) (ih (j + 1) (by omega))))
      rw [rs_S_s, f1 j k]
    · refine br_t rfl (nm_r (nI_1 j) ?_)
      have := ih (j + 1) (by omega)
      rw [rs_S_s, f0 j k, Int32.add_zero] at this
      exact this
theorem rs_ysum (post : Int32 → Prop) (x : Int32) (n : Nat) (hn : n ≤ 400) (h p q a hb sb ob f : Nat → Int32)
    (f1 : ∀ i, rs_yp x (h i) (p i) (q i) = true → f i = a i) (f0 : ∀ i, rs_yp x (h i) (p i) (q i) = false → f i = 0)
    (hp : wpY_filter (fun r_2 => (((r_2 = 0 → (post (-1000000))) ∧ (¬ r_2 = 0 → (post (rs_S f n)))))) (nI n, h, p, q, a, hb, sb, ob) x) :
    ∀ d j : Nat, j + d = n → wY_sum_4 post x (nI n) h p q a hb sb ob (d + 1) (rs_S f j) (nI j) := by
  intro d
  induction d with
  | zero =>
    intro j hj
    have hj' : j = n := by omega
    subst hj'
    exact br_t (Int32.le_refl _) hp
  | succ d ih =>
    intro j hj
    have hj' : j < n := by omega
    refine br_f (nI_ge hj' (by omega)) ?_
    refine rs_yps _ x j (by omega) (nI n) h p q a hb sb ob (fun k => ?_) (fun k => ?_)
    · refine br_f rs_n10 ⟨vp_in_nI (by omega) (by omega), nm_r (e' := rs_S f (j + 1)) ?_ (nm_r (nI_1 j) (ih (j + 1) (by omega)))⟩
      rw [nI_clamp (by omega), rs_S_s, f1 j k]
    · refine br_t rfl (nm_r (nI_1 j) ?_)
      have := ih (j + 1) (by omega)
      rw [rs_S_s, f0 j k, Int32.add_zero] at this
      exact this
theorem i_vc_count {k : Nat} {u : SX} {v : SY} (I : i_Rel k u v) (hk : k + 5 ≤ 2560) (v1 : Int32) : wpX_count (fun r => wpY_count (fun r' => r' = r ∧ i_Rel (k + 5) u v) v v1) u v1 := by
  obtain ⟨e, t, c, w, l, g, gc, gs⟩ := u
  obtain ⟨z, h, p, q, a, hb, sb, ob⟩ := v
  have J : i_Rel (k + 5) (e, t, c, w, l, g, gc, gs) (z, h, p, q, a, hb, sb, ob) := I
  obtain ⟨n, S, hn, e1, e2, _, hE, hS⟩ := I
  dsimp only at e1 e2 hE hS
  subst e1 e2
  unfold wpX_count wpY_count
  dsimp only
  rcases rs_ff v1 with ⟨F, hF, rfl⟩ | hf
  · refine rs_xf1 _ hF (br_f rs_n10 ⟨256 + 1, ?_⟩)
    refine rs_xcount _ F hF (nI n) t c w l g gc gs (fun s => if rs_Q c F s = true then c s else 0) (fun s y => rs_f_t y) (fun s y => rs_f_f y) ?_ 256 0 rfl
    refine ⟨n + 1, rs_ycount _ (nI F) n hn h p q a hb sb ob (fun i => if rs_yp (nI F) (h i) (p i) (q i) = true then 1 else 0) (fun s y => rs_f_t y) (fun s y => rs_f_f y) ?_ n 0 (by omega)⟩
    refine rs_yf1 _ hF _ (br_f rs_n10 ⟨?_, J⟩)
    rw [rs_ex hn hE hS (fun _ => 1) c (rs_Vc hS) (rs_p F) (rs_Q c F) (fun s _ => rfl)]
    exact rs_S_congr n (fun i hi => by rw [rs_py hE hF hi])
  · refine rs_xf0 _ hf (br_t rfl ?_)
    refine ⟨n + 1, rs_ycount _ v1 n hn h p q a hb sb ob (fun i => if rs_yp v1 (h i) (p i) (q i) = true then 1 else 0) (fun s y => rs_f_t y) (fun s y => rs_f_f y) ?_ n 0 (by omega)⟩
    exact rs_yf0 _ hf _ (br_t rfl ⟨rfl, J⟩)
theorem i_vc_sum {k : Nat} {u : SX} {v : SY} (I : i_Rel k u v) (hk : k + 5 ≤ 2560) (v1 : Int32) : wpX_sum (fun r => wpY_sum (fun r' => r' = r ∧ i_Rel (k + 5) u v) v v1) u v1 := by
  obtain ⟨e, t, c, w, l, g, gc, gs⟩ := u
  obtain ⟨z, h, p, q, a, hb, sb, ob⟩ := v
  have J : i_Rel (k + 5) (e, t, c, w, l, g, gc, gs) (z, h, p, q, a, hb, sb, ob) := I
  obtain ⟨n, S, hn, e1, e2, _, hE, hS⟩ := I
  dsimp only at e1 e2 hE hS
  subst e1 e2
  unfold wpX_sum wpY_sum
  dsimp only
  rcases rs_ff v1 with ⟨F, hF, rfl⟩ | hf
  · refine rs_xf1 _ hF (br_f rs_n10 ⟨256 + 1, ?_⟩)
    refine rs_xsum _ F hF (nI n) t c w l g gc gs (fun s => if rs_Q c F s = true then w s else 0) (fun s y => rs_f_t y) (fun s y => rs_f_f y) ?_ 256 0 rfl
    refine ⟨n + 1, rs_ysum _ (nI F) n hn h p q a hb sb ob (fun i => if rs_yp (nI F) (h i) (p i) (q i) = true then a i else 0) (fun s y => rs_f_t y) (fun s y => rs_f_f y) ?_ n 0 (by omega)⟩
    refine rs_yf1 _ hF _ (br_f rs_n10 ⟨?_, J⟩)
    rw [rs_ex hn hE hS (fun x => x) w (rs_Vw hS) (rs_p F) (rs_Q c F) (fun s _ => rfl)]
    exact rs_S_congr n (fun i hi => by rw [rs_py hE hF hi])
  · refine rs_xf0 _ hf (br_t rfl ?_)
    refine ⟨n + 1, rs_ysum _ v1 n hn h p q a hb sb ob (fun i => if rs_yp v1 (h i) (p i) (q i) = true then a i else 0) (fun s y => rs_f_t y) (fun s y => rs_f_f y) ?_ n 0 (by omega)⟩
    exact rs_yf0 _ hf _ (br_t rfl ⟨rfl, J⟩)
end
section
/-! least, greatest: le is ≤ or its converse -/
def rs_T0 (n : Nat) (P : Nat → Bool) : Prop := ∀ i, i < n → P i = false
def rs_T1 (le : Int32 → Int32 → Prop) (n : Nat) (P : Nat → Bool) (A : Nat → Int32) (m : Int32) : Prop := (∃ i, i < n ∧ P i = true ∧ A i = m) ∧ ∀ i, i < n → P i = true → le m (A i)
theorem rs_T0_s {n : Nat} {P : Nat → Bool} (h : rs_T0 n P) (k : P n = false) : rs_T0 (n + 1) P := fun i hi => by
  by_cases e : i = n
  · rw [e]; exact k
  · exact h i (by omega)
theorem rs_T1_s {le : Int32 → Int32 → Prop} {n : Nat} {P : Nat → Bool} {A : Nat → Int32} {m : Int32} (h : rs_T1 le n P A m) (k : P n = true → le m (A n)) : rs_T1 le (n + 1) P A m := by
  obtain ⟨⟨i, hi, h1, h2⟩, h3⟩ := h
  refine ⟨⟨i, by omega, h1, h2⟩, fun j hj y => ?_⟩
  by_cases e : j = n
  · subst e; exact k y
  · exact h3 j (by omega) y
theorem rs_T1_0 {le : Int32 → Int32 → Prop} (rf : ∀ x, le x x) {n : Nat} {P : Nat → Bool} {A : Nat → Int32} (h : rs_T0 n P) (k : P n = true) : rs_T1 le (n + 1) P A (A n) := by
  refine ⟨⟨n, by omega, k, rfl⟩, fun j hj y => ?_⟩
  by_cases e : j = n
  · subst e; exact rf _
  · rw [h j (by omega)] at y; exact absurd y Bool.false_ne_true
theorem rs_T1_r {le : Int32 → Int32 → Prop} (rf : ∀ x, le x x) (tt : ∀ x y, ¬ le x y → le y x) (tr : ∀ x y z, le x y → le y z → le x z) {n : Nat} {P : Nat → Bool} {A : Nat → Int32} {m : Int32} (h : rs_T1 le n P A m) (k : P n = true) (q : ¬ le m (A n)) : rs_T1 le (n + 1) P A (A n) := by
  refine ⟨⟨n, by omega, k, rfl⟩, fun j hj y => ?_⟩
  by_cases e : j = n
  · subst e; exact rf _
  · exact tr _ _ _ (tt _ _ q) (h.2 j (by omega) y)
def rs_T (le : Int32 → Int32 → Prop) (n : Nat) (P : Nat → Bool) (A : Nat → Int32) (m : Int32) : Prop := (m = -1000000 ∧ rs_T0 n P) ∨ rs_T1 le n P A m
theorem rs_T_u {le : Int32 → Int32 → Prop} (an : ∀ x y, le x y → le y x → x = y) {n : Nat} {P : Nat → Bool} {A : Nat → Int32} {m m' : Int32} (h : rs_T le n P A m) (h' : rs_T le n P A m') : m' = m := by
  rcases h with ⟨e, h0⟩ | ⟨⟨i, hi, h1, h2⟩, h3⟩
  · rcases h' with ⟨e', _⟩ | ⟨⟨i, hi, h1, h2⟩, h3⟩
    · rw [e, e']
    · rw [h0 i hi] at h1; exact absurd h1 Bool.false_ne_true
  · rcases h' with ⟨e', h0⟩ | ⟨⟨i', hi', h1', h2'⟩, h3'⟩
    · rw [h0 i hi] at h1; exact absurd h1 Bool.false_ne_true
    · refine an _ _ ?_ ?_
      · rw [← h2]; exact h3' i hi h1
      · rw [← h2']; exact h3 i' hi' h1'
/-- from the sorts to the events -/
theorem rs_T_xy {le : Int32 → Int32 → Prop} (tr : ∀ x y z, le x y → le y z → le x z) {n : Nat} {S : Nat → Nat} {h p q a c w l g : Nat → Int32} (hn : n ≤ 400) (hE : rs_ev n S h p q a) (hS : rs_st n S a c w l g)
    {F : Nat} (hF : F < 262144) (L : Nat → Int32) (hL : ∀ s, s < 256 → rs_G S a n s ≠ [] → L s ∈ rs_G S a n s ∧ ∀ x, x ∈ rs_G S a n s → le (L s) x) {m : Int32}
    (k : rs_T le 256 (rs_Q c F) L m) : rs_T le n (fun i => rs_yp (nI F) (h i) (p i) (q i)) a m := by
  have hQ : ∀ i, i < n → rs_p F (S i) = true → rs_Q c F (S i) = true ∧ a i ∈ rs_G S a n (S i) := by
    intro i hi y
    have hm : a i ∈ rs_G S a n (S i) := (rs_G_mem S a n (S i) (a i)).mpr ⟨i, hi, rfl, rfl⟩
    refine ⟨?_, hm⟩
    unfold rs_Q
    rw [y, Bool.and_true]
    refine decide_eq_true (fun y => ?_)
    rw [(rs_cp hn hS (hE i hi).1).mp y] at hm
    cases hm
  rcases k with ⟨e, h0⟩ | ⟨⟨s, hs, h1, h2⟩, h3⟩
  · refine Or.inl ⟨e, fun i hi => ?_⟩
    show rs_yp (nI F) (h i) (p i) (q i) = false
    rw [rs_py hE hF hi]
    refine rs_bt (fun y => ?_)
    have := (hQ i hi y).1
    rw [h0 (S i) (hE i hi).1] at this
    exact Bool.false_ne_true this
  · refine Or.inr ⟨?_, fun i hi y => ?_⟩
    · unfold rs_Q at h1
      rw [Bool.and_eq_true] at h1
      have hne : rs_G S a n s ≠ [] := fun y => (of_decide_eq_true h1.1) ((rs_cp hn hS hs).mpr y)
      obtain ⟨i, hi, e1, e2⟩ := (rs_G_mem S a n s (L s)).mp (hL s hs hne).1
      refine ⟨i, hi, ?_, e2.trans h2⟩
      show rs_yp (nI F) (h i) (p i) (q i) = true
      rw [rs_py hE hF hi, e1]
      exact h1.2
    · have y' : rs_yp (nI F) (h i) (p i) (q i) = true := y
      rw [rs_py hE hF hi] at y'
      obtain ⟨q1, q2⟩ := hQ i hi y'
      have hs := (hE i hi).1
      refine tr _ _ _ (h3 (S i) hs q1) ((hL (S i) hs (fun z => ?_)).2 _ q2)
      rw [z] at q2
      cases q2
theorem rs_le_r (x : Int32) : x ≤ x := Int32.le_refl x
theorem rs_le_t (x y : Int32) (h : ¬ x ≤ y) : y ≤ x := Int32.le_of_lt (Int32.not_le.mp h)
theorem rs_le_tr (x y z : Int32) (h : x ≤ y) (k : y ≤ z) : x ≤ z := Int32.le_trans h k
theorem rs_le_a (x y : Int32) (h : x ≤ y) (k : y ≤ x) : x = y := Int32.le_antisymm h k
def rs_lo1 (x y : Int32) : Prop := x ≤ y
def rs_hi1 (x y : Int32) : Prop := y ≤ x
def rs_I (le : Int32 → Int32 → Prop) (P : Nat → Bool) (A : Nat → Int32) (j : Nat) (x2 x3 : Int32) : Prop := (x2 = 0 ∧ x3 = -1000000 ∧ rs_T0 j P) ∨ (x2 = 1 ∧ rs_T1 le j P A x3)
theorem rs_xleast (post : Int32 → Prop) (F : Nat) (hF : F < 262144) (e t : Int32) (c w l g gc gs : Nat → Int32)
    (hp : ∀ m, rs_T rs_lo1 256 (rs_Q c F) l m → post m) :
    ∀ d j : Nat, j + d = 256 → ∀ x2 x3 : Int32, rs_I rs_lo1 (rs_Q c F) l j x2 x3 → wX_least_18 post (nI F) e t c w l g gc gs (d + 1) x2 x3 (nI j) := by
  intro d
  induction d with
  | zero =>
    intro j hj x2 x3 I
    have hj' : j = 256 := by omega
    subst hj'
    refine br_t (Int32.le_refl _) (hp x3 ?_)
    rcases I with ⟨_, h⟩ | ⟨_, h⟩
    · exact Or.inl h
    · exact Or.inr h
  | succ d ih =>
    intro j hj x2 x3 I
    have hj' : j < 256 := by omega
    refine br_f (nI_ge (b := 256) hj' (by omega)) ?_
    refine rs_hp _ e t c w l g gc gs j F hj' hF (fun k => ?_) (fun k => ?_)
    · have N : rs_T1 rs_lo1 (j + 1) (rs_Q c F) l (l j) → wX_least_51 post (wX_least_18 post (nI F) e t c w l g gc gs (d + 1)) (nI F) (nI j) e t c w l g gc gs := fun T =>
        ⟨vp_in_nI hj' (by omega), nm_r (e' := l j) (by rw [nI_clamp (by omega)]) (nm_r (nI_1 j) (ih (j + 1) (by omega) 1 (l j) (Or.inr ⟨rfl, T⟩)))⟩
      refine br_f rs_n10 ?_
      rcases I with ⟨e2, e3, T⟩ | ⟨e2, T⟩
      · exact br_t e2 (N (rs_T1_0 rs_le_r T k))
      · refine br_f (by rw [e2]; exact rs_n10) ⟨vp_in_nI hj' (by omega), ?_⟩
        rw [nI_clamp (by omega)]
        exact br_c (fun y => nm_r (nI_1 j) (ih (j + 1) (by omega) x2 x3 (Or.inr ⟨e2, rs_T1_s T (fun _ => y)⟩))) (fun y => N (rs_T1_r rs_le_r rs_le_t rs_le_tr T k y))
    · refine br_t rfl (nm_r (nI_1 j) (ih (j + 1) (by omega) x2 x3 ?_))
      rcases I with ⟨e2, e3, T⟩ | ⟨e2, T⟩
      · exact Or.inl ⟨e2, e3, rs_T0_s T k⟩
      · exact Or.inr ⟨e2, rs_T1_s T (fun y => by rw [k] at y; exact absurd y Bool.false_ne_true)⟩
theorem rs_xgreatest (post : Int32 → Prop) (F : Nat) (hF : F < 262144) (e t : Int32) (c w l g gc gs : Nat → Int32)
    (hp : ∀ m, rs_T rs_hi1 256 (rs_Q c F) g m → post m) :
    ∀ d j : Nat, j + d = 256 → ∀ x2 x3 : Int32, rs_I rs_hi1 (rs_Q c F) g j x2 x3 → wX_greatest_18 post (nI F) e t c w l g gc gs (d + 1) x2 x3 (nI j) := by
  intro d
  induction d with
  | zero =>
    intro j hj x2 x3 I
    have hj' : j = 256 := by omega
    subst hj'
    refine br_t (Int32.le_refl _) (hp x3 ?_)
    rcases I with ⟨_, h⟩ | ⟨_, h⟩
    · exact Or.inl h
    · exact Or.inr h
  | succ d ih =>
    intro j hj x2 x3 I
    have hj' : j < 256 := by omega
    refine br_f (nI_ge (b := 256) hj' (by omega)) ?_
    refine rs_hp _ e t c w l g gc gs j F hj' hF (fun k => ?_) (fun k => ?_)
    · have N : rs_T1 rs_hi1 (j + 1) (rs_Q c F) g (g j) → wX_greatest_51 post (wX_greatest_18 post (nI F) e t c w l g gc gs (d + 1)) (nI F) (nI j) e t c w l g gc gs := fun T =>
        ⟨vp_in_nI hj' (by omega), nm_r (e' := g j) (by rw [nI_clamp (by omega)]) (nm_r (nI_1 j) (ih (j + 1) (by omega) 1 (g j) (Or.inr ⟨rfl, T⟩)))⟩
      refine br_f rs_n10 ?_
      rcases I with ⟨e2, e3, T⟩ | ⟨e2, T⟩
      · exact br_t e2 (N (rs_T1_0 (le := rs_hi1) rs_le_r T k))
      · refine br_f (by rw [e2]; exact rs_n10) ⟨vp_in_nI hj' (by omega), ?_⟩
        rw [nI_clamp (by omega)]
        exact br_c (fun y => nm_r (nI_1 j) (ih (j + 1) (by omega) x2 x3 (Or.inr ⟨e2, rs_T1_s T (fun _ => y)⟩))) (fun y => N (rs_T1_r (le := rs_hi1) rs_le_r (fun x y => rs_le_t y x) (fun x y z h k => rs_le_tr z y x k h) T k y))
    · refine br_t rfl (nm_r (nI_1 j) (ih (j + 1) (by omega) x2 x3 ?_))
      rcases I with ⟨e2, e3, T⟩ | ⟨e2, T⟩
      · exact Or.inl ⟨e2, e3, rs_T0_s T k⟩
      · exact Or.inr ⟨e2, rs_T1_s T (fun y => by rw [k] at y; exact absurd y Bool.false_ne_true)⟩
theorem rs_none {x : Int32} (h : -100 ≤ x) : ¬ x ≤ -1000000 := fun k => absurd (Int32.le_trans h k) (by decide +kernel)
theorem rs_yleast (post : Int32 → Prop) (F n : Nat) (hF : F < 262144) (hn : n ≤ 400) (h p q a hb sb ob : Nat → Int32) (ha : ∀ i, i < n → -100 ≤ a i)
    (hp : ∀ m, rs_T rs_lo1 n (fun i => rs_yp (nI F) (h i) (p i) (q i)) a m → post m) :
    ∀ d j : Nat, j + d = n → ∀ x2 : Int32, rs_T rs_lo1 j (fun i => rs_yp (nI F) (h i) (p i) (q i)) a x2 → wY_least_5 post (nI F) (nI n) h p q a hb sb ob (d + 1) x2 (nI j) := by
  intro d
  induction d with
  | zero =>
    intro j hj x2 I
    have hj' : j = n := by omega
    subst hj'
    exact br_t (Int32.le_refl _) (hp x2 I)
  | succ d ih =>
    intro j hj x2 I
    have hj' : j < n := by omega
    refine br_f (nI_ge hj' (by omega)) ?_
    refine rs_yf1 _ hF _ (br_f rs_n10 ?_)
    refine rs_yps _ (nI F) j (by omega) (nI n) h p q a hb sb ob (fun k => ?_) (fun k => ?_)
    · have N : rs_T1 rs_lo1 (j + 1) (fun i => rs_yp (nI F) (h i) (p i) (q i)) a (a j) → wY_least_46 post (wY_least_5 post (nI F) (nI n) h p q a hb sb ob (d + 1)) (nI F) (nI j) (nI n) h p q a hb sb ob := fun T =>
        ⟨vp_in_nI (by omega) (by omega), nm_r (e' := a j) (by rw [nI_clamp (by omega)]) (nm_r (nI_1 j) (ih (j + 1) (by omega) (a j) (Or.inr T)))⟩
      refine br_f rs_n10 ?_
      rcases I with ⟨e2, T⟩ | T
      · exact br_t e2 (N (rs_T1_0 rs_le_r T k))
      · obtain ⟨i, hi, _, e4⟩ := T.1
        refine br_f (fun y => rs_none (ha i (by omega)) (by rw [e4, y]; exact Int32.le_refl _)) ⟨vp_in_nI (by omega) (by omega), ?_⟩
        rw [nI_clamp (by omega)]
        exact br_c (fun y => nm_r (nI_1 j) (ih (j + 1) (by omega) x2 (Or.inr (rs_T1_s T (fun _ => y))))) (fun y => N (rs_T1_r rs_le_r rs_le_t rs_le_tr T k y))
    · refine br_t rfl (nm_r (nI_1 j) (ih (j + 1) (by omega) x2 ?_))
      rcases I with ⟨e2, T⟩ | T
      · exact Or.inl ⟨e2, rs_T0_s T k⟩
      · exact Or.inr (rs_T1_s T (fun y => absurd (k.symm.trans y) Bool.false_ne_true))
theorem rs_ygreatest (post : Int32 → Prop) (F n : Nat) (hF : F < 262144) (hn : n ≤ 400) (h p q a hb sb ob : Nat → Int32) (ha : ∀ i, i < n → -100 ≤ a i)
    (hp : ∀ m, rs_T rs_hi1 n (fun i => rs_yp (nI F) (h i) (p i) (q i)) a m → post m) :
    ∀ d j : Nat, j + d = n → ∀ x2 : Int32, rs_T rs_hi1 j (fun i => rs_yp (nI F) (h i) (p i) (q i)) a x2 → wY_greatest_5 post (nI F) (nI n) h p q a hb sb ob (d + 1) x2 (nI j) := by
  intro d
  induction d with
  | zero =>
    intro j hj x2 I
    have hj' : j = n := by omega
    subst hj'
    exact br_t (Int32.le_refl _) (hp x2 I)
  | succ d ih =>
    intro j hj x2 I
    have hj' : j < n := by omega
    refine br_f (nI_ge hj' (by omega)) ?_
    refine rs_yf1 _ hF _ (br_f rs_n10 ?_)
    refine rs_yps _ (nI F) j (by omega) (nI n) h p q a hb sb ob (fun k => ?_) (fun k => ?_)
    · refine br_f rs_n10 ⟨vp_in_nI (by omega) (by omega), ?_⟩
      rw [nI_clamp (by omega)]
      refine br_c (fun y => nm_r (nI_1 j) (ih (j + 1) (by omega) x2 ?_)) (fun y => ⟨vp_in_nI (by omega) (by omega), nm_e (nm_r (nI_1 j) (ih (j + 1) (by omega) (a j) ?_))⟩)
      · rcases I with ⟨e2, T⟩ | T
        · rw [e2] at y
          exact absurd y (rs_none (ha j hj'))
        · exact Or.inr (rs_T1_s T (fun _ => y))
      · rcases I with ⟨e2, T⟩ | T
        · exact Or.inr (rs_T1_0 (le := rs_hi1) rs_le_r T k)
        · exact Or.inr (rs_T1_r (le := rs_hi1) rs_le_r (fun x y => rs_le_t y x) (fun x y z h k => rs_le_tr z y x k h) T k y)
    · refine br_t rfl (nm_r (nI_1 j) (ih (j + 1) (by omega) x2 ?_))
      rcases I with ⟨e2, T⟩ | T
      · exact Or.inl ⟨e2, rs_T0_s T k⟩
      · exact Or.inr (rs_T1_s T (fun y => absurd (k.symm.trans y) Bool.false_ne_true))
theorem i_vc_least {k : Nat} {u : SX} {v : SY} (I : i_Rel k u v) (hk : k + 5 ≤ 2560) (v1 : Int32) : wpX_least (fun r => wpY_least (fun r' => r' = r ∧ i_Rel (k + 5) u v) v v1) u v1 := by
  obtain ⟨e, t, c, w, l, g, gc, gs⟩ := u
  obtain ⟨z, h, p, q, a, hb, sb, ob⟩ := v
  have J : i_Rel (k + 5) (e, t, c, w, l, g, gc, gs) (z, h, p, q, a, hb, sb, ob) := I
  obtain ⟨n, S, hn, e1, e2, _, hE, hS⟩ := I
  dsimp only at e1 e2 hE hS
  subst e1 e2
  unfold wpX_least wpY_least
  dsimp only
  rcases rs_ff v1 with ⟨F, hF, rfl⟩ | hf
  · refine rs_xf1 _ hF (br_f rs_n10 ⟨256 + 1, ?_⟩)
    refine rs_xleast _ F hF (nI n) t c w l g gc gs (fun m T => ?_) 256 0 rfl 0 (-1000000) (Or.inl ⟨rfl, rfl, fun i hi => absurd hi (by omega)⟩)
    refine ⟨n + 1, rs_yleast _ F n hF hn h p q a hb sb ob (fun i hi => (hE i hi).2.1.1) (fun m' T' => ⟨?_, J⟩) n 0 (by omega) (-1000000) (Or.inl ⟨rfl, fun i hi => absurd hi (by omega)⟩)⟩
    exact rs_T_u rs_le_a (rs_T_xy rs_le_tr hn hE hS hF l (fun s hs y => ((hS s hs).2 y).2.1) T) T'
  · refine rs_xf0 _ hf (br_t rfl ⟨1, br_c (fun _ => ⟨rfl, J⟩) (fun _ => ?_)⟩)
    exact rs_yf0 _ hf _ (br_t rfl ⟨rfl, J⟩)
theorem i_vc_greatest {k : Nat} {u : SX} {v : SY} (I : i_Rel k u v) (hk : k + 5 ≤ 2560) (v1 : Int32) : wpX_greatest (fun r => wpY_greatest (fun r' => r' = r ∧ i_Rel (k + 5) u v) v v1) u v1 := by
  obtain ⟨e, t, c, w, l, g, gc, gs⟩ := u
  obtain ⟨z, h, p, q, a, hb, sb, ob⟩ := v
  have J : i_Rel (k + 5) (e, t, c, w, l, g, gc, gs) (z, h, p, q, a, hb, sb, ob) := I
  obtain ⟨n, S, hn, e1, e2, _, hE, hS⟩ := I
  dsimp only at e1 e2 hE hS
  subst e1 e2
  unfold wpX_greatest wpY_greatest
  dsimp only
  rcases rs_ff v1 with ⟨F, hF, rfl⟩ | hf
  · refine rs_xf1 _ hF (br_f rs_n10 ⟨256 + 1, ?_⟩)
    refine rs_xgreatest _ F hF (nI n) t c w l g gc gs (fun m T => ?_) 256 0 rfl 0 (-1000000) (Or.inl ⟨rfl, rfl, fun i hi => absurd hi (by omega)⟩)
    refine ⟨n + 1, rs_ygreatest _ F n hF hn h p q a hb sb ob (fun i hi => (hE i hi).2.1.1) (fun m' T' => ⟨?_, J⟩) n 0 (by omega) (-1000000) (Or.inl ⟨rfl, fun i hi => absurd hi (by omega)⟩)⟩
    exact rs_T_u (fun x y h k => rs_le_a x y k h) (rs_T_xy (fun x y z h k => rs_le_tr z y x k h) hn hE hS hF g (fun s hs y => ((hS s hs).2 y).2.2) T) T'
  · refine rs_xf0 _ hf (br_t rfl ⟨1, br_c (fun _ => ⟨rfl, J⟩) (fun _ => ?_)⟩)
    exact rs_yf0 _ hf _ (br_t rfl ⟨rfl, J⟩)
end
section
/-! sortsPassing, sorts -/
def rs_K (P : Nat → Bool) (S : Nat → Nat) : Nat → Nat → Bool
  | 0, _ => false
  | j + 1, s => (P j && decide (S j = s)) || rs_K P S j s
theorem rs_K_s (P : Nat → Bool) (S : Nat → Nat) (j s : Nat) : rs_K P S (j + 1) s = ((P j && decide (S j = s)) || rs_K P S j s) := rfl
theorem rs_K_iff (P : Nat → Bool) (S : Nat → Nat) (n s : Nat) : rs_K P S n s = true ↔ ∃ i, i < n ∧ P i = true ∧ S i = s := by
  induction n with
  | zero => exact ⟨fun y => absurd y Bool.false_ne_true, fun ⟨i, hi, _⟩ => absurd hi (by omega)⟩
  | succ n ih =>
    rw [rs_K_s, Bool.or_eq_true, Bool.and_eq_true, ih]
    constructor
    · rintro (⟨y, y2⟩ | ⟨i, hi, y⟩)
      · exact ⟨n, by omega, y, of_decide_eq_true y2⟩
      · exact ⟨i, by omega, y⟩
    · rintro ⟨i, hi, y1, y2⟩
      by_cases e : i = n
      · subst e; exact Or.inl ⟨y1, decide_eq_true y2⟩
      · exact Or.inr ⟨i, by omega, y1, y2⟩
theorem rs_K_upd (P : Nat → Bool) (S : Nat → Nat) (j s : Nat) : rs_b (rs_K P S (j + 1) s) = upd (fun s => rs_b (rs_K P S j s)) (S j) (rs_b (P j || rs_K P S j (S j))) s := by
  rw [rs_K_s]
  by_cases e : s = S j
  · subst e
    rw [pk_us, decide_eq_true rfl, Bool.and_true]
  · rw [pk_un e, decide_eq_false (fun y => e y.symm), Bool.and_false, Bool.false_or]
theorem rs_K_sum (P : Nat → Bool) (S : Nat → Nat) (j : Nat) (hj : S j < 256) : rs_S (fun s => rs_b (rs_K P S (j + 1) s)) 256 = rs_S (fun s => rs_b (rs_K P S j s)) 256 + (rs_b (P j || rs_K P S j (S j)) - rs_b (rs_K P S j (S j))) := by
  rw [rs_S_congr 256 (fun s _ => rs_K_upd P S j s), rs_S_upd _ _ _ _ hj]
theorem rs_xsp (post : Int32 → Prop) (F : Nat) (hF : F < 262144) (e t : Int32) (c w l g gc gs f : Nat → Int32)
    (f1 : ∀ s, rs_Q c F s = true → f s = 1) (f0 : ∀ s, rs_Q c F s = false → f s = 0) (hp : post (rs_S f 256)) :
    ∀ d j : Nat, j + d = 256 → wX_sortsPassing_13 post (nI F) e t c w l g gc gs (d + 1) (rs_S f j) (nI j) := by
  intro d
  induction d with
  | zero =>
    intro j hj
    have hj' : j = 256 := by omega
    subst hj'
    exact br_t (Int32.le_refl _) hp
  | succ d ih =>
    intro j hj
    have hj' : j < 256 := by omega
    refine br_f (nI_ge (b := 256) hj' (by omega)) ?_
    refine rs_hp _ e t c w l g gc gs j F hj' hF (fun k => ?_) (fun k => ?_)
    · refine br_f rs_n10 (nm_r (e' := rs_S f (j + 1)) ?_ (nm_r (nI_1 j) (ih (j + 1) (by omega))))
      rw [rs_S_s, f1 j k]
    · refine br_t rfl (nm_r (nI_1 j) ?_)
      have := ih (j + 1) (by omega)
      rw [rs_S_s, f0 j k, Int32.add_zero] at this
      exact this
theorem rs_sort_n {h p q : Int32} {s : Nat} (h1 : h = nI (s / 16)) (h2 : p = nI (s / 4 % 4)) (h3 : q = nI (s % 4)) : ((16 * h) + (4 * p)) + q = nI s := by
  subst h1 h2 h3
  have a1 : (16 : Int32) * nI (s / 16) = nI (16 * (s / 16)) := pk_mul 16 _
  have a2 : (4 : Int32) * nI (s / 4 % 4) = nI (4 * (s / 4 % 4)) := pk_mul 4 _
  rw [a1, a2, nI_add, nI_add]
  exact congrArg nI (by omega)
theorem rs_ysort (post : Int32 → Prop) {n : Nat} {S : Nat → Nat} {h p q a : Nat → Int32} (hn : n ≤ 400) (hE : rs_ev n S h p q a) (z : Int32) (hb sb ob : Nat → Int32) {i : Nat} (hi : i < n) (k : post (nI (S i))) : wpY_sort post (z, h, p, q, a, hb, sb, ob) (nI i) := by
  unfold wpY_sort
  dsimp only
  have hv : vp_in (nI i) 400 := vp_in_nI (by omega) (by omega)
  refine ⟨hv, hv, hv, ?_⟩
  obtain ⟨_, _, h1, h2, h3⟩ := hE i hi
  rw [nI_clamp (by omega), rs_sort_n h1 h2 h3]
  exact k
theorem rs_y67 (post : Int32 → SY → Prop) (J : Int32 → Int32 → (Nat → Int32) → (Nat → Int32) → (Nat → Int32) → (Nat → Int32) → (Nat → Int32) → (Nat → Int32) → (Nat → Int32) → Prop) (x : Int32) (j s : Nat) (hj : j < 400) (hs : s < 256) (z0 z : Int32) (h p q a hb sb ob : Nat → Int32)
    (B : Bool) (hB : ob s = rs_b B) (k : J z0 (nI (j + 1)) h p q a hb sb (upd ob s (rs_b (rs_yp x (h j) (p j) (q j) || B)))) : wY_sortsPassing_67 post J x (nI j) (nI s) z0 z h p q a hb sb ob := by
  have hv : vp_in (nI s) 256 := vp_in_nI hs (by omega)
  unfold wY_sortsPassing_67
  refine ⟨hv, ?_⟩
  rw [nI_clamp (n := s) (by omega)]
  cases B
  · rw [Bool.or_false] at k
    refine br_t hB (rs_yps _ x j hj z h p q a hb sb ob (fun y => ?_) (fun y => ?_))
    · rw [y] at k
      exact br_f rs_n10 ⟨hv, nm_r (e' := upd ob s 1) (by rw [rs_nb1]) (nm_r (nI_1 j) k)⟩
    · rw [y] at k
      exact br_t rfl ⟨hv, nm_r (e' := upd ob s 0) (by rw [rs_nb0]) (nm_r (nI_1 j) k)⟩
  · rw [Bool.or_true] at k
    exact br_f (by rw [hB]; exact rs_n10) ⟨hv, nm_r (e' := upd ob s 1) (by rw [rs_nb1]) (nm_r (nI_1 j) k)⟩
theorem rs_y26s (post : Int32 → SY → Prop) (x : Int32) {n : Nat} {S : Nat → Nat} {h p q a : Nat → Int32} (hn : n ≤ 400) (hE : rs_ev n S h p q a) (hb sb : Nat → Int32) (P : Nat → Bool) (hP : ∀ i, rs_yp x (h i) (p i) (q i) = P i)
    (hp : ∀ ob : Nat → Int32, wpY_filter (fun r_3 => (((r_3 = 0 → (post (-1) (nI n, h, p, q, a, hb, sb, ob))) ∧ (¬ r_3 = 0 → (post (rs_S (fun s => rs_b (rs_K P S n s)) 256) (nI n, h, p, q, a, hb, sb, ob)))))) (nI n, h, p, q, a, hb, sb, ob) x) :
    ∀ d j : Nat, j + d = n → ∀ ob : Nat → Int32, (∀ s, s < 256 → ob s = rs_b (rs_K P S j s)) → wY_sortsPassing_26 post x (nI n) (d + 1) (rs_S (fun s => rs_b (rs_K P S j s)) 256) (nI j) h p q a hb sb ob := by
  intro d
  induction d with
  | zero =>
    intro j hj ob I
    have hj' : j = n := by omega
    subst hj'
    exact br_t (Int32.le_refl _) (hp ob)
  | succ d ih =>
    intro j hj ob I
    have hj' : j < n := by omega
    have hs : S j < 256 := (hE j hj').1
    have I' : ∀ s, s < 256 → upd ob (S j) (rs_b (P j || rs_K P S j (S j))) s = rs_b (rs_K P S (j + 1) s) := by
      intro s hs'
      rw [rs_K_upd]
      by_cases y : s = S j
      · rw [y, pk_us, pk_us]
      · rw [pk_un y, pk_un y]; exact I s hs'
    have K := ih (j + 1) (by omega) (upd ob (S j) (rs_b (P j || rs_K P S j (S j)))) I'
    rw [rs_K_sum P S j hs] at K
    refine br_f (nI_ge hj' (by omega)) ?_
    refine rs_ysort _ hn hE (nI n) hb sb ob hj' ?_
    have k0 : rs_S (fun s => rs_b (rs_K P S j s)) 256 + (rs_b (P j || rs_K P S j (S j)) - rs_b (rs_K P S j (S j))) = rs_S (fun s => rs_b (rs_K P S j s)) 256 → wY_sortsPassing_66 post (wY_sortsPassing_26 post x (nI n) (d + 1)) x (rs_S (fun s => rs_b (rs_K P S j s)) 256) (nI j) (nI (S j)) (nI n) h p q a hb sb ob := by
      intro y
      rw [y] at K
      unfold wY_sortsPassing_66
      refine rs_y67 post _ x j (S j) (by omega) hs _ (nI n) h p q a hb sb ob (rs_K P S j (S j)) (I _ hs) ?_
      rw [hP j]
      exact K
    refine rs_yps _ x j (by omega) (nI n) h p q a hb sb ob (fun y => ?_) (fun y => ?_)
    · rw [hP j] at y
      refine br_f rs_n10 ⟨vp_in_nI hs (by omega), ?_⟩
      rw [nI_clamp (n := S j) (by omega), I _ hs]
      cases e : rs_K P S j (S j)
      · refine br_t rfl ?_
        refine rs_y67 post _ x j (S j) (by omega) hs _ (nI n) h p q a hb sb ob (rs_K P S j (S j)) (I _ hs) ?_
        rw [hP j]
        rw [e, y] at K ⊢
        exact K
      · refine br_f rs_n10 (k0 ?_)
        rw [e, Bool.or_true]
        exact (Int32.add_zero _)
    · rw [hP j] at y
      refine br_t rfl (k0 ?_)
      rw [y, Bool.false_or, Int32.sub_self, Int32.add_zero]
theorem rs_y2s (post : Int32 → SY → Prop) (x z : Int32) (h p q a hb sb : Nat → Int32)
    (hp : ∀ ob : Nat → Int32, (∀ s, s < 256 → ob s = 0) → ∃ n26 : Nat, wY_sortsPassing_26 post x z n26 0 0 h p q a hb sb ob) :
    ∀ d j : Nat, j + d = 256 → ∀ ob : Nat → Int32, (∀ s, s < j → ob s = 0) → wY_sortsPassing_2 post x z (d + 1) (nI j) h p q a hb sb ob := by
  intro d
  induction d with
  | zero =>
    intro j hj ob I
    have hj' : j = 256 := by omega
    subst hj'
    exact br_t (Int32.le_refl _) (hp ob I)
  | succ d ih =>
    intro j hj ob I
    have hj' : j < 256 := by omega
    refine br_f (nI_ge (b := 256) hj' (by omega)) ⟨vp_in_nI hj' (by omega), nm_r (e' := upd ob j 0) (by rw [nI_clamp (by omega), rs_nb0]) (nm_r (nI_1 j) (ih (j + 1) (by omega) _ (fun s hs => ?_)))⟩
    by_cases y : s = j
    · rw [y, pk_us]
    · rw [pk_un y]; exact I s (by omega)
theorem rs_ysp (post : Int32 → SY → Prop) (x : Int32) {n : Nat} {S : Nat → Nat} {h p q a : Nat → Int32} (hn : n ≤ 400) (hE : rs_ev n S h p q a) (hb sb ob : Nat → Int32) (P : Nat → Bool) (hP : ∀ i, rs_yp x (h i) (p i) (q i) = P i)
    (hp : ∀ ob : Nat → Int32, wpY_filter (fun r_3 => (((r_3 = 0 → (post (-1) (nI n, h, p, q, a, hb, sb, ob))) ∧ (¬ r_3 = 0 → (post (rs_S (fun s => rs_b (rs_K P S n s)) 256) (nI n, h, p, q, a, hb, sb, ob)))))) (nI n, h, p, q, a, hb, sb, ob) x) :
    wpY_sortsPassing post (nI n, h, p, q, a, hb, sb, ob) x := by
  unfold wpY_sortsPassing
  dsimp only
  refine ⟨256 + 1, rs_y2s post x (nI n) h p q a hb sb (fun ob' I => ⟨n + 1, ?_⟩) 256 0 rfl ob (fun s hs => absurd hs (by omega))⟩
  have K := rs_y26s post x hn hE hb sb P hP hp n 0 (by omega) ob' (fun s hs => I s hs)
  have e0 : rs_S (fun s => rs_b (rs_K P S 0 s)) 256 = 0 := rs_S_zero 256 (fun i _ => rfl)
  rw [e0] at K
  exact K
theorem rs_K_Q {n : Nat} {S : Nat → Nat} {h p q a c w l g : Nat → Int32} (hn : n ≤ 400) (hE : rs_ev n S h p q a) (hS : rs_st n S a c w l g) {F : Nat} (hF : F < 262144) :
    rs_S (fun s => rs_b (rs_K (fun i => rs_yp (nI F) (h i) (p i) (q i)) S n s)) 256 = rs_S (fun s => if rs_Q c F s = true then 1 else 0) 256 := by
  refine rs_S_congr 256 (fun s hs => ?_)
  show rs_b _ = rs_b (rs_Q c F s)
  refine congrArg rs_b (Bool.eq_iff_iff.mpr ?_)
  rw [rs_K_iff]
  unfold rs_Q
  rw [Bool.and_eq_true, decide_eq_true_iff, rs_cp hn hS hs]
  constructor
  · rintro ⟨i, hi, y1, y2⟩
    have y1' : rs_yp (nI F) (h i) (p i) (q i) = true := y1
    rw [rs_py hE hF hi, y2] at y1'
    refine ⟨fun y => ?_, y1'⟩
    have hm : a i ∈ rs_G S a n s := (rs_G_mem S a n s (a i)).mpr ⟨i, hi, y2, rfl⟩
    rw [y] at hm
    cases hm
  · rintro ⟨y1, y2⟩
    obtain ⟨x, hx⟩ := List.exists_mem_of_ne_nil _ y1
    obtain ⟨i, hi, e1, e2⟩ := (rs_G_mem S a n s x).mp hx
    refine ⟨i, hi, ?_, e1⟩
    show rs_yp (nI F) (h i) (p i) (q i) = true
    rw [rs_py hE hF hi, e1]
    exact y2
theorem rs_all : ∀ s, s < 256 → rs_p 246015 s = true := by decide +kernel
theorem rs_ysorts (post : Int32 → SY → Prop) {n : Nat} {S : Nat → Nat} {h p q a c w l g : Nat → Int32} (hn : n ≤ 400) (hE : rs_ev n S h p q a) (hS : rs_st n S a c w l g) (hb sb ob : Nat → Int32)
    (hp : ∀ ob : Nat → Int32, post (rs_S (rs_mk c) 256) (nI n, h, p, q, a, hb, sb, ob)) : wpY_sorts post (nI n, h, p, q, a, hb, sb, ob) := by
  unfold wpY_sorts
  dsimp only
  have e : rs_S (fun s => rs_b (rs_K (fun i => rs_yp (nI 246015) (h i) (p i) (q i)) S n s)) 256 = rs_S (rs_mk c) 256 := by
    rw [rs_K_Q hn hE hS (by omega)]
    refine rs_S_congr 256 (fun s hs => ?_)
    unfold rs_Q rs_mk
    rw [rs_all s hs, Bool.and_true]
    by_cases y : c s ≤ 0
    · rw [if_pos y, decide_eq_false (fun y' => y' y)]; rfl
    · rw [if_neg y, decide_eq_true y]; rfl
  refine rs_ysp _ (nI 246015) hn hE hb sb ob (fun i => rs_yp (nI 246015) (h i) (p i) (q i)) (fun i => rfl) (fun ob' => ?_)
  refine rs_yf1 _ (by omega) _ (br_f rs_n10 ?_)
  rw [e]
  exact hp ob'
theorem i_vc_sorts {k : Nat} {u : SX} {v : SY} (I : i_Rel k u v) (hk : k + 5 ≤ 2560) : wpX_sorts (fun r => wpY_sorts (fun r' v' => r' = r ∧ i_Rel (k + 5) u v') v) u := by
  obtain ⟨e, t, c, w, l, g, gc, gs⟩ := u
  obtain ⟨z, h, p, q, a, hb, sb, ob⟩ := v
  have J : rs_R e t c w l g z h p q a := I
  obtain ⟨n, S, hn, e1, e2, ht, hE, hS⟩ := id J
  subst e1 e2
  unfold wpX_sorts
  dsimp only
  refine rs_ysorts _ hn hE hS hb sb ob (fun ob' => ⟨ht.symm, J⟩)
theorem i_vc_sortsPassing {k : Nat} {u : SX} {v : SY} (I : i_Rel k u v) (hk : k + 5 ≤ 2560) (v1 : Int32) : wpX_sortsPassing (fun r => wpY_sortsPassing (fun r' v' => r' = r ∧ i_Rel (k + 5) u v') v v1) u v1 := by
  obtain ⟨e, t, c, w, l, g, gc, gs⟩ := u
  obtain ⟨z, h, p, q, a, hb, sb, ob⟩ := v
  have J : rs_R e t c w l g z h p q a := I
  obtain ⟨n, S, hn, e1, e2, ht, hE, hS⟩ := id J
  subst e1 e2
  unfold wpX_sortsPassing
  dsimp only
  rcases rs_ff v1 with ⟨F, hF, rfl⟩ | hf
  · refine rs_xf1 _ hF (br_f rs_n10 ⟨256 + 1, ?_⟩)
    refine rs_xsp _ F hF (nI n) t c w l g gc gs (fun s => if rs_Q c F s = true then 1 else 0) (fun s y => rs_f_t y) (fun s y => rs_f_f y) ?_ 256 0 rfl
    refine rs_ysp _ (nI F) hn hE hb sb ob (fun i => rs_yp (nI F) (h i) (p i) (q i)) (fun i => rfl) (fun ob' => ?_)
    exact rs_yf1 _ hF _ (br_f rs_n10 ⟨rs_K_Q hn hE hS hF, J⟩)
  · refine rs_xf0 _ hf (br_t rfl ?_)
    refine rs_ysp _ v1 hn hE hb sb ob (fun i => rs_yp v1 (h i) (p i) (q i)) (fun i => rfl) (fun ob' => ?_)
    exact rs_yf0 _ hf _ (br_t rfl ⟨rfl, J⟩)
end
section
/-! take -/
def rs_evb (p0 p1 p2 p3 : Int32) : Prop := p0 < 0 ∨ 63 < p0 ∨ p1 < 0 ∨ 3 < p1 ∨ p2 < 0 ∨ 3 < p2 ∨ p3 < (-100) ∨ 100 < p3
theorem rs_evg {p0 p1 p2 p3 : Int32} (h : ¬ rs_evb p0 p1 p2 p3) : ¬ p0 < 0 ∧ ¬ 63 < p0 ∧ ¬ p1 < 0 ∧ ¬ 3 < p1 ∧ ¬ p2 < 0 ∧ ¬ 3 < p2 ∧ ¬ p3 < (-100) ∧ ¬ 100 < p3 :=
  ⟨fun y => h (Or.inl y), fun y => h (Or.inr (Or.inl y)), fun y => h (Or.inr (Or.inr (Or.inl y))), fun y => h (Or.inr (Or.inr (Or.inr (Or.inl y)))), fun y => h (Or.inr (Or.inr (Or.inr (Or.inr (Or.inl y))))),
   fun y => h (Or.inr (Or.inr (Or.inr (Or.inr (Or.inr (Or.inl y)))))), fun y => h (Or.inr (Or.inr (Or.inr (Or.inr (Or.inr (Or.inr (Or.inl y))))))), fun y => h (Or.inr (Or.inr (Or.inr (Or.inr (Or.inr (Or.inr (Or.inr y))))))) ⟩
theorem rs_ev8 {p0 p1 p2 p3 : Int32} (h : rs_evb p0 p1 p2 p3) (y0 : ¬ p0 < 0) (y1 : ¬ 63 < p0) (y2 : ¬ p1 < 0) (y3 : ¬ 3 < p1) (y4 : ¬ p2 < 0) (y5 : ¬ 3 < p2) (y6 : ¬ p3 < (-100)) (y7 : ¬ 100 < p3) : False := by
  rcases h with h | h | h | h | h | h | h | h
  · exact y0 h
  · exact y1 h
  · exact y2 h
  · exact y3 h
  · exact y4 h
  · exact y5 h
  · exact y6 h
  · exact y7 h
theorem rs_xe0 (post : Int32 → Prop) {p0 p1 p2 p3 : Int32} (h : rs_evb p0 p1 p2 p3) (k : post 0) : wpX_isEvent post p0 p1 p2 p3 := by
  unfold wpX_isEvent
  exact br_c (fun _ => k) (fun y0 => br_c (fun _ => k) (fun y1 => br_c (fun _ => k) (fun y2 => br_c (fun _ => k) (fun y3 => br_c (fun _ => k) (fun y4 => br_c (fun _ => k) (fun y5 => br_c (fun _ => k) (fun y6 => br_c (fun _ => k) (fun y7 => (rs_ev8 h y0 y1 y2 y3 y4 y5 y6 y7).elim))))))))
theorem rs_xe1 (post : Int32 → Prop) {p0 p1 p2 p3 : Int32} (h : ¬ rs_evb p0 p1 p2 p3) (k : post 1) : wpX_isEvent post p0 p1 p2 p3 := by
  obtain ⟨y0, y1, y2, y3, y4, y5, y6, y7⟩ := rs_evg h
  unfold wpX_isEvent
  exact br_f y0 (br_f y1 (br_f y2 (br_f y3 (br_f y4 (br_f y5 (br_f y6 (br_f y7 k)))))))
theorem rs_yt0 (post : Int32 → SY → Prop) {p0 p1 p2 p3 : Int32} (hv : rs_evb p0 p1 p2 p3) (z : Int32) (h p q a hb sb ob : Nat → Int32) (k : post (-1) (z, h, p, q, a, hb, sb, ob)) : wpY_take post (z, h, p, q, a, hb, sb, ob) p0 p1 p2 p3 := by
  unfold wpY_take
  dsimp only
  exact br_c (fun _ => k) (fun y0 => br_c (fun _ => k) (fun y1 => br_c (fun _ => k) (fun y2 => br_c (fun _ => k) (fun y3 => br_c (fun _ => k) (fun y4 => br_c (fun _ => k) (fun y5 => br_c (fun _ => k) (fun y6 => br_c (fun y7 => (rs_ev8 hv y0 y1 y2 y3 y4 y5 y6 (Int32.not_lt.mpr y7)).elim) (fun _ => k))))))))
theorem rs_evn {p0 p1 p2 p3 : Int32} (h : ¬ rs_evb p0 p1 p2 p3) : ∃ T P K : Nat, T < 64 ∧ P < 4 ∧ K < 4 ∧ p0 = nI T ∧ p1 = nI P ∧ p2 = nI K ∧ (-100 ≤ p3 ∧ p3 ≤ 100) := by
  obtain ⟨y0, y1, y2, y3, y4, y5, y6, y7⟩ := rs_evg h
  obtain ⟨T, hT, eT⟩ := nI_of2 (n := 63) (by decide +kernel) y0 (Int32.not_lt.mp y1)
  obtain ⟨P, hP, eP⟩ := nI_of2 (n := 3) (by decide +kernel) y2 (Int32.not_lt.mp y3)
  obtain ⟨K, hK, eK⟩ := nI_of2 (n := 3) (by decide +kernel) y4 (Int32.not_lt.mp y5)
  exact ⟨T, P, K, by omega, by omega, by omega, eT, eP, eK, Int32.not_lt.mp y6, Int32.not_lt.mp y7⟩
/-- X adds -/
theorem rs_x87 (post : SX → Prop) (s : Nat) (hs : s < 256) (x e t : Int32) (c w l g gc gs : Nat → Int32)
    (hp : ∀ g' : Nat → Int32, (∀ j, j ≠ s → g' j = g j) → (x ≤ g s ∧ g' s = g s ∨ ¬ x ≤ g s ∧ g' s = x) → post (e, t, c, w, l, g', gc, gs)) : wX_addToSort_87 post (nI s) x e t c w l g gc gs := by
  have hv : vp_in (nI s) 256 := vp_in_nI hs (by omega)
  unfold wX_addToSort_87
  rw [nI_clamp (n := s) (by omega)]
  exact ⟨hv, br_c (fun y => hp g (fun _ _ => rfl) (Or.inl ⟨y, rfl⟩)) (fun y => ⟨hv, nm_e (hp _ (fun j hj => pk_un hj) (Or.inr ⟨y, pk_us⟩))⟩)⟩
theorem rs_x40 (post : SX → Prop) (s : Nat) (hs : s < 256) (x e t : Int32) (c w l g gc gs : Nat → Int32)
    (hp : ∀ l' g' : Nat → Int32, (∀ j, j ≠ s → l' j = l j) → (l s ≤ x ∧ l' s = l s ∨ ¬ l s ≤ x ∧ l' s = x) → (∀ j, j ≠ s → g' j = g j) → (x ≤ g s ∧ g' s = g s ∨ ¬ x ≤ g s ∧ g' s = x) → post (e + 1, t, upd c s (c s + 1), upd w s (w s + x), l', g', gc, gs)) : wX_addToSort_40 post (nI s) x e t c w l g gc gs := by
  have hv : vp_in (nI s) 256 := vp_in_nI hs (by omega)
  unfold wX_addToSort_40
  rw [nI_clamp (n := s) (by omega)]
  refine nm_e ⟨hv, hv, nm_e ⟨hv, hv, nm_e ⟨hv, br_c (fun y => ?_) (fun y => ⟨hv, nm_e ?_⟩)⟩⟩⟩
  · exact rs_x87 post s hs x _ _ _ _ _ _ _ _ (fun g' h1 h2 => hp l g' (fun _ _ => rfl) (Or.inl ⟨y, rfl⟩) h1 h2)
  · exact rs_x87 post s hs x _ _ _ _ _ _ _ _ (fun g' h1 h2 => hp _ g' (fun j hj => pk_un hj) (Or.inr ⟨y, pk_us⟩) h1 h2)
def rs_ad (s : Nat) (x t : Int32) (c w l g : Nat → Int32) (t' : Int32) (w' l' g' : Nat → Int32) : Prop :=
  (c s = 0 → t' = t + 1 ∧ w' s = x ∧ l' s = x ∧ g' s = x) ∧ (¬ c s = 0 → t' = t ∧ w' s = w s + x ∧ (l s ≤ x ∧ l' s = l s ∨ ¬ l s ≤ x ∧ l' s = x) ∧ (x ≤ g s ∧ g' s = g s ∨ ¬ x ≤ g s ∧ g' s = x)) ∧ ∀ j, j ≠ s → w' j = w j ∧ l' j = l j ∧ g' j = g j
theorem rs_xadd (post : SX → Prop) (s : Nat) (hs : s < 256) (x e t : Int32) (c w l g gc gs : Nat → Int32)
    (hp : ∀ (t' : Int32) (w' l' g' : Nat → Int32), rs_ad s x t c w l g t' w' l' g' → post (e + 1, t', upd c s (c s + 1), w', l', g', gc, gs)) : wpX_addToSort post (e, t, c, w, l, g, gc, gs) (nI s) x := by
  have hv : vp_in (nI s) 256 := vp_in_nI hs (by omega)
  unfold wpX_addToSort
  dsimp only
  rw [nI_clamp (n := s) (by omega)]
  refine ⟨hv, br_c (fun y => nm_e ⟨hv, nm_e ⟨hv, nm_e ⟨hv, nm_e ?_⟩⟩⟩) (fun y => ?_)⟩
  · refine rs_x40 post s hs x e (t + 1) c (upd w s 0) (upd l s x) (upd g s x) gc gs (fun l' g' h1 h2 h3 h4 => hp _ _ _ _ ⟨fun _ => ⟨rfl, ?_, ?_, ?_⟩, fun n => absurd y n, fun j hj => ⟨?_, ?_, ?_⟩⟩)
    · rw [pk_us, pk_us, Int32.zero_add]
    · rcases h2 with ⟨_, h2⟩ | ⟨_, h2⟩
      · rw [h2, pk_us]
      · exact h2
    · rcases h4 with ⟨_, h4⟩ | ⟨_, h4⟩
      · rw [h4, pk_us]
      · exact h4
    · rw [pk_un hj, pk_un hj]
    · rw [h1 j hj, pk_un hj]
    · rw [h3 j hj, pk_un hj]
  · exact rs_x40 post s hs x e t c w l g gc gs (fun l' g' h1 h2 h3 h4 => hp _ _ _ _ ⟨fun n => absurd n y, fun _ => ⟨rfl, pk_us, h2, h4⟩, fun j hj => ⟨pk_un hj, h1 j hj, h3 j hj⟩⟩)
/-- the picture grows by one event -/
theorem rs_c0 {n : Nat} {S : Nat → Nat} {a c w l g : Nat → Int32} (hn : n ≤ 400) (hS : rs_st n S a c w l g) {s : Nat} (hs : s < 256) : c s = 0 ↔ rs_G S a n s = [] := by
  have hl := rs_G_len S a n s
  rw [(hS s hs).1, ← List.length_eq_zero_iff]
  exact nI_eq (b := 0) (by omega) (by omega)
theorem rs_G_add (S : Nat → Nat) (a : Nat → Int32) (n s : Nat) (x : Int32) (j : Nat) : rs_G (fun i => if i = n then s else S i) (upd a n x) (n + 1) j = if s = j then x :: rs_G S a n j else rs_G S a n j := by
  rw [rs_G_s, rs_G_congr (S' := S) (A' := a) n (fun i hi => ⟨if_neg (by omega), pk_un (by omega)⟩), pk_us, if_pos rfl]
theorem rs_ev_add {n : Nat} {S : Nat → Nat} {h p q a : Nat → Int32} (hE : rs_ev n S h p q a) {s : Nat} (hs : s < 256) {x : Int32} (hx : -100 ≤ x ∧ x ≤ 100) {h1 p1 q1 : Int32} (e1 : h1 = nI (s / 16)) (e2 : p1 = nI (s / 4 % 4)) (e3 : q1 = nI (s % 4)) :
    rs_ev (n + 1) (fun i => if i = n then s else S i) (upd h n h1) (upd p n p1) (upd q n q1) (upd a n x) := by
  intro i hi
  by_cases y : i = n
  · subst y
    dsimp only
    rw [if_pos rfl, pk_us, pk_us, pk_us, pk_us]
    exact ⟨hs, hx, e1, e2, e3⟩
  · dsimp only
    rw [if_neg y, pk_un y, pk_un y, pk_un y, pk_un y]
    exact hE i (by omega)
theorem rs_st_add {n : Nat} {S : Nat → Nat} {a c w l g : Nat → Int32} (hn : n ≤ 400) (hS : rs_st n S a c w l g) {s : Nat} (hs : s < 256) {x t t' : Int32} {w' l' g' : Nat → Int32} (k : rs_ad s x t c w l g t' w' l' g') :
    rs_st (n + 1) (fun i => if i = n then s else S i) (upd a n x) (upd c s (c s + 1)) w' l' g' := by
  obtain ⟨k1, k2, k3⟩ := k
  intro j hj
  rw [rs_G_add]
  by_cases y : s = j
  · subst y
    rw [if_pos rfl, pk_us, List.length_cons, ← nI_1, ← (hS s hs).1]
    refine ⟨rfl, fun _ => ?_⟩
    by_cases z : c s = 0
    · rw [(rs_c0 hn hS hs).mp z, (k1 z).2.1, (k1 z).2.2.1, (k1 z).2.2.2]
      exact ⟨(Int32.zero_add x).symm, rs_Mn_1 x, rs_Mx_1 x⟩
    · obtain ⟨_, k4, k5, k6⟩ := k2 z
      obtain ⟨m1, m2, m3⟩ := (hS s hs).2 (fun y => z ((rs_c0 hn hS hs).mpr y))
      refine ⟨by rw [k4, m1]; rfl, ?_, ?_⟩
      · rcases k5 with ⟨y1, y2⟩ | ⟨y1, y2⟩
        · rw [y2]; exact rs_Mn_hi m2 (Int32.not_lt.mpr y1)
        · rw [y2]; exact rs_Mn_lo m2 (Int32.not_le.mp y1)
      · rcases k6 with ⟨y1, y2⟩ | ⟨y1, y2⟩
        · rw [y2]; exact rs_Mx_lo m3 (Int32.not_lt.mpr y1)
        · rw [y2]; exact rs_Mx_hi m3 (Int32.not_le.mp y1)
  · have y' : j ≠ s := fun z => y z.symm
    rw [if_neg y, pk_un y', (k3 j y').1, (k3 j y').2.1, (k3 j y').2.2]
    exact hS j hj
theorem rs_mk_upd (c : Nat → Int32) (s : Nat) (v : Int32) (n : Nat) (hs : s < n) : rs_S (rs_mk (upd c s v)) n = rs_S (rs_mk c) n + ((if v ≤ 0 then 0 else 1) - rs_mk c s) := by
  rw [← rs_S_upd _ _ _ _ hs]
  refine rs_S_congr n (fun i _ => ?_)
  by_cases y : i = s
  · subst y
    rw [pk_us]
    unfold rs_mk
    rw [pk_us]
  · rw [pk_un y]
    unfold rs_mk
    rw [pk_un y]
theorem rs_t_add {n : Nat} {S : Nat → Nat} {a c w l g : Nat → Int32} (hn : n ≤ 400) (hS : rs_st n S a c w l g) {s : Nat} (hs : s < 256) {x t t' : Int32} {w' l' g' : Nat → Int32} (ht : t = rs_S (rs_mk c) 256) (k : rs_ad s x t c w l g t' w' l' g') :
    t' = rs_S (rs_mk (upd c s (c s + 1))) 256 := by
  have hl := rs_G_len S a n s
  have hc := (hS s hs).1
  have e1 : ¬ c s + 1 ≤ 0 := by
    rw [hc, nI_1]
    exact nI_nle (by omega) (by omega)
  rw [rs_mk_upd _ _ _ _ hs, if_neg e1, ← ht]
  unfold rs_mk
  by_cases z : c s = 0
  · rw [(k.1 z).1, z, if_pos (Int32.le_refl 0)]; rfl
  · have z' : ¬ c s ≤ 0 := fun y => z ((rs_c0 hn hS hs).mpr ((rs_cp hn hS hs).mp y))
    rw [(k.2.1 z).1, if_neg z', Int32.sub_self, Int32.add_zero]
end
section
/-! take: the reference's side, and both -/
theorem rs_yof4 (post : Int32 → Prop) {n : Nat} {S : Nat → Nat} {h p q a : Nat → Int32} (hn : n ≤ 400) (hE : rs_ev n S h p q a) (hb sb ob : Nat → Int32) (s : Nat) (hs : s < 256) (k : post (nI (rs_G S a n s).length)) :
    ∀ d j : Nat, j + d = n → wY_ofSort_4 post (nI s) (nI n) h p q a hb sb ob (d + 1) (nI (rs_G S a j s).length) (nI j) := by
  intro d
  induction d with
  | zero =>
    intro j hj
    have hj' : j = n := by omega
    subst hj'
    exact br_t (Int32.le_refl _) k
  | succ d ih =>
    intro j hj
    have hj' : j < n := by omega
    refine br_f (nI_ge hj' (by omega)) ?_
    refine rs_ysort _ hn hE (nI n) hb sb ob hj' ?_
    have K := ih (j + 1) (by omega)
    rw [rs_G_s] at K
    have hS := (hE j hj').1
    refine pk_eq (S j) s (fun y => ?_) (fun y => ?_)
    · rw [if_pos y, List.length_cons] at K
      exact nm_r (nI_1 _) (nm_r (nI_1 j) K)
    · rw [if_neg y] at K
      exact nm_r (nI_1 j) K
theorem rs_yof (post : Int32 → Prop) {n : Nat} {S : Nat → Nat} {h p q a : Nat → Int32} (hn : n ≤ 400) (hE : rs_ev n S h p q a) (hb sb ob : Nat → Int32) (s : Nat) (hs : s < 256) (k : post (nI (rs_G S a n s).length)) :
    wpY_ofSort post (nI n, h, p, q, a, hb, sb, ob) (nI s) := by
  unfold wpY_ofSort
  dsimp only
  exact ⟨n + 1, rs_yof4 post hn hE hb sb ob s hs k n 0 (by omega)⟩
theorem rs_y89 (post : Int32 → SY → Prop) {n : Nat} {S : Nat → Nat} {h p q a : Nat → Int32} (hn : n < 400) (hE : rs_ev n S h p q a) (hb sb ob : Nat → Int32) {T P K s : Nat} (hT : T < 64) (hP : P < 4) (hK : K < 4) (es : s = 16 * (T / 4) + 4 * P + K)
    {x : Int32} (hx : -100 ≤ x ∧ x ≤ 100)
    (k : post (nI ((rs_G S a n s).length + 1)) (nI (n + 1), upd h n (nI (s / 16)), upd p n (nI (s / 4 % 4)), upd q n (nI (s % 4)), upd a n x, hb, sb, ob)) :
    wY_take_89 post (nI T) (nI P) (nI K) x (nI s) (nI n) h p q a hb sb ob := by
  have hs : s < 256 := by omega
  have hv : vp_in (nI n) 400 := vp_in_nI hn (by omega)
  have e1 : nI T / 4 = nI (s / 16) := by
    have : nI T / nI 4 = nI (T / 4) := pk_div (by omega) (by omega) (by omega)
    exact this.trans (congrArg nI (by omega))
  have e2 : nI P = nI (s / 4 % 4) := congrArg nI (by omega)
  have e3 : nI K = nI (s % 4) := congrArg nI (by omega)
  unfold wY_take_89
  rw [nI_clamp (n := n) (by omega), e1, e2, e3]
  refine ⟨by decide, hv, nm_e ⟨hv, nm_e ⟨hv, nm_e ⟨hv, nm_e (nm_r (nI_1 n) ?_)⟩⟩⟩⟩
  refine rs_yof _ (by omega) (rs_ev_add hE hs hx rfl rfl rfl) hb sb ob s hs ?_
  rw [rs_G_add, if_pos rfl, List.length_cons]
  exact k
theorem rs_ysn {T P K s : Nat} (hT : T < 64) (es : s = 16 * (T / 4) + 4 * P + K) : ((16 * (nI T / 4)) + (4 * nI P)) + nI K = nI s := by
  have e0 : nI T / 4 = nI (T / 4) := pk_div (d := 4) (by omega) (by omega) (by omega)
  have a1 : (16 : Int32) * nI (T / 4) = nI (16 * (T / 4)) := pk_mul 16 _
  have a2 : (4 : Int32) * nI P = nI (4 * P) := pk_mul 4 _
  rw [e0, a1, a2, nI_add, nI_add, es]
theorem rs_xsn {T P K s : Nat} (hT : T < 64) (es : s = 16 * (T / 4) + 4 * P + K) : (((nI T / 4) * 16) + (4 * nI P)) + nI K = nI s := by
  have e0 : nI T / 4 = nI (T / 4) := pk_div (d := 4) (by omega) (by omega) (by omega)
  have a1 : nI (T / 4) * 16 = nI (T / 4 * 16) := pk_mul _ 16
  have a2 : (4 : Int32) * nI P = nI (4 * P) := pk_mul 4 _
  rw [e0, a1, a2, nI_add, nI_add, es]
  exact congrArg nI (by omega)
theorem rs_ytake (post : Int32 → SY → Prop) {n : Nat} {S : Nat → Nat} {h p q a c w l g : Nat → Int32} (hn : n ≤ 400) (hE : rs_ev n S h p q a) (hS : rs_st n S a c w l g) (hb sb ob : Nat → Int32) {T P K s : Nat} (hT : T < 64) (hP : P < 4) (hK : K < 4) (es : s = 16 * (T / 4) + 4 * P + K)
    {x : Int32} (hv : ¬ rs_evb (nI T) (nI P) (nI K) x) (hx : -100 ≤ x ∧ x ≤ 100)
    (k2 : n = 400 ∨ (c s ≤ 0 ∧ 40 ≤ rs_S (rs_mk c) 256) → ∀ ob : Nat → Int32, post (-2) (nI n, h, p, q, a, hb, sb, ob))
    (k : n < 400 → ¬ c s ≤ 0 ∨ ¬ 40 ≤ rs_S (rs_mk c) 256 → ∀ ob : Nat → Int32, post (nI ((rs_G S a n s).length + 1)) (nI (n + 1), upd h n (nI (s / 16)), upd p n (nI (s / 4 % 4)), upd q n (nI (s % 4)), upd a n x, hb, sb, ob)) :
    wpY_take post (nI n, h, p, q, a, hb, sb, ob) (nI T) (nI P) (nI K) x := by
  have hs : s < 256 := by omega
  have hl := rs_G_len S a n s
  obtain ⟨y0, y1, y2, y3, y4, y5, y6, y7⟩ := rs_evg hv
  unfold wpY_take
  dsimp only
  refine br_f y0 (br_f y1 (br_f y2 (br_f y3 (br_f y4 (br_f y5 (br_f y6 (br_t hx.2 ⟨by decide, nm_r (rs_ysn hT es) ?_⟩)))))))
  refine pk_le 400 n (fun y => k2 (Or.inl (by omega)) ob) (fun y => ?_)
  refine rs_yof _ hn hE hb sb ob s hs ?_
  refine pk_eq (rs_G S a n s).length 0 (fun z => ?_) (fun z => ?_)
  · have z' : c s ≤ 0 := (rs_cp hn hS hs).mpr (List.length_eq_zero_iff.mp z)
    refine rs_ysorts _ hn hE hS hb sb ob (fun ob' => ?_)
    refine br_c (fun r => ?_) (fun r => ?_)
    · exact rs_y89 post (by omega) hE hb sb ob' hT hP hK es hx (k (by omega) (Or.inr (Int32.not_le.mpr r)) ob')
    · exact k2 (Or.inr ⟨z', Int32.not_lt.mp r⟩) ob'
  · have z' : ¬ c s ≤ 0 := fun r => z (List.length_eq_zero_iff.mpr ((rs_cp hn hS hs).mp r))
    exact rs_y89 post (by omega) hE hb sb ob hT hP hK es hx (k (by omega) (Or.inl z') ob)
theorem rs_xroom (post : Int32 → Prop) {n s : Nat} (hn : n ≤ 400) (hs : s < 256) (t : Int32) (c w l g gc gs : Nat → Int32) (k0 : n = 400 ∨ (c s ≤ 0 ∧ 40 ≤ t) → post 0) (k1 : n < 400 → ¬ c s ≤ 0 ∨ ¬ 40 ≤ t → post 1) :
    wpX_hasRoomFor post (nI n, t, c, w, l, g, gc, gs) (nI s) := by
  unfold wpX_hasRoomFor
  dsimp only
  refine pk_le 400 n (fun y => k0 (Or.inl (by omega))) (fun y => ⟨vp_in_nI hs (by omega), ?_⟩)
  rw [nI_clamp (by omega)]
  exact br_c (fun y1 => k1 (by omega) (Or.inl (Int32.not_le.mpr y1))) (fun y1 => br_c (fun y2 => k0 (Or.inr ⟨Int32.not_lt.mp y1, y2⟩)) (fun y2 => k1 (by omega) (Or.inr y2)))
theorem i_vc_take {k : Nat} {u : SX} {v : SY} (I : i_Rel k u v) (hk : k + 5 ≤ 2560) (v1 : Int32) (v2 : Int32) (v3 : Int32) (v4 : Int32) : wpX_take (fun r u' => wpY_take (fun r' v' => r' = r ∧ i_Rel (k + 5) u' v') v v1 v2 v3 v4) u v1 v2 v3 v4 := by
  obtain ⟨e, t, c, w, l, g, gc, gs⟩ := u
  obtain ⟨z, h, p, q, a, hb, sb, ob⟩ := v
  have J : rs_R e t c w l g z h p q a := I
  obtain ⟨n, S, hn, e1, e2, ht, hE, hS⟩ := id J
  subst e1 e2
  unfold wpX_take
  dsimp only
  by_cases hv : rs_evb v1 v2 v3 v4
  · exact rs_xe0 _ hv (br_t rfl (rs_yt0 _ hv _ _ _ _ _ _ _ _ ⟨rfl, J⟩))
  · obtain ⟨T, P, K, hT, hP, hK, rfl, rfl, rfl, hx⟩ := rs_evn hv
    obtain ⟨s, es⟩ : ∃ s, s = 16 * (T / 4) + 4 * P + K := ⟨_, rfl⟩
    have hs : s < 256 := by omega
    have hl := rs_G_len S a n s
    refine rs_xe1 _ hv (br_f rs_n10 ⟨by decide, nm_r (rs_xsn hT es) ?_⟩)
    have full : n = 400 ∨ (c s ≤ 0 ∧ 40 ≤ t) → wpY_take (fun r' v' => r' = -2 ∧ i_Rel (k + 5) (nI n, t, c, w, l, g, gc, gs) v') (nI n, h, p, q, a, hb, sb, ob) (nI T) (nI P) (nI K) v4 := by
      intro f
      rw [ht] at f
      refine rs_ytake _ hn hE hS hb sb ob hT hP hK es hv hx (fun _ ob' => ⟨rfl, J⟩) (fun m1 m2 => ?_)
      rcases f with f | f
      · omega
      · rcases m2 with m2 | m2
        · exact absurd f.1 m2
        · exact absurd f.2 m2
    refine rs_xroom _ hn hs t c w l g gc gs (fun f => br_t rfl (full f)) (fun f1 f2 => br_f rs_n10 ?_)
    rw [ht] at f2
    refine rs_xadd _ s hs v4 (nI n) t c w l g gc gs (fun t' w' l' g' A => ⟨vp_in_nI hs (by omega), ?_⟩)
    refine rs_ytake _ hn hE hS hb sb ob hT hP hK es hv hx (fun m ob' => ?_) (fun _ _ ob' => ⟨?_, ?_⟩)
    · rcases m with m | m
      · omega
      · rcases f2 with f2 | f2
        · exact absurd m.1 f2
        · exact absurd m.2 f2
    · rw [nI_clamp (by omega)]
      show nI ((rs_G S a n s).length + 1) = upd c s (c s + 1) s
      rw [pk_us, (hS s hs).1, nI_1]
    · exact ⟨n + 1, fun i => if i = n then s else S i, by omega, nI_1 n, rfl, rs_t_add hn hS hs ht A, rs_ev_add hE hs hx rfl rfl rfl, rs_st_add hn hS hs A⟩
end
section
/-! forget -/
/-- X: the counts of the hour's 16 sorts go to 0; x2 is what the counts' total has lost, sortTotal the total of the marks -/
theorem rs_x22 (post : Int32 → SX → Prop) (H : Nat) (hH : H < 16) (e : Int32) (c0 w l g gc gs : Nat → Int32) (c0p : ∀ s, s < 256 → c0 s ≤ 0 → c0 s = 0)
    (hp : ∀ c : Nat → Int32, (∀ s, s < 256 → c s = if s / 16 = H then 0 else c0 s) → post (rs_S c0 256 - rs_S c 256) (e - (rs_S c0 256 - rs_S c 256), rs_S (rs_mk c) 256, c, w, l, g, gc, gs)) :
    ∀ d j : Nat, j + d = 16 → ∀ c : Nat → Int32, (∀ s, s < 256 → c s = if 16 * H ≤ s ∧ s < 16 * H + j then 0 else c0 s) →
      wX_forget_22 post (nI (H * 16)) e (d + 1) (rs_S c0 256 - rs_S c 256) (nI (16 * H + j)) (rs_S (rs_mk c) 256) c w l g gc gs := by
  have e16 : nI (H * 16) + 16 = nI (16 * H + 16) := by
    have : nI (H * 16) + nI 16 = nI (H * 16 + 16) := nI_add _ _
    exact this.trans (congrArg nI (by omega))
  intro d
  induction d with
  | zero =>
    intro j hj c I
    have hj' : j = 16 := by omega
    subst hj'
    refine br_t (by rw [e16]; exact Int32.le_refl _) (nm_e (hp c (fun s hs => ?_)))
    rw [I s hs]
    by_cases y : s / 16 = H
    · rw [if_pos y, if_pos (by omega)]
    · rw [if_neg y, if_neg (by omega)]
  | succ d ih =>
    intro j hj c I
    have hs : 16 * H + j < 256 := by omega
    have hv : vp_in (nI (16 * H + j)) 256 := vp_in_nI hs (by omega)
    have Ij : c (16 * H + j) = c0 (16 * H + j) := by
      rw [I _ hs, if_neg (by omega)]
    refine br_f (by rw [e16]; exact nI_ge (by omega) (by omega)) ⟨hv, ?_⟩
    rw [nI_clamp (n := 16 * H + j) (by omega)]
    refine br_c (fun y => nm_r (nI_1 _) ?_) (fun y => ⟨hv, ?_⟩)
    · refine ih (j + 1) (by omega) c (fun s hs' => ?_)
      rw [I s hs']
      by_cases z : s = 16 * H + j
      · subst z
        rw [Ij] at y
        rw [if_neg (by omega), if_pos (by omega)]
        exact c0p _ hs y
      · by_cases z2 : 16 * H ≤ s ∧ s < 16 * H + j
        · rw [if_pos z2, if_pos (by omega)]
        · rw [if_neg z2, if_neg (by omega)]
    · have K := ih (j + 1) (by omega) (upd c (16 * H + j) 0) (fun s hs' => by
        by_cases z : s = 16 * H + j
        · subst z
          rw [pk_us, if_pos (by omega)]
        · rw [pk_un z, I s hs']
          by_cases z2 : 16 * H ≤ s ∧ s < 16 * H + j
          · rw [if_pos z2, if_pos (by omega)]
          · rw [if_neg z2, if_neg (by omega)])
      rw [rs_mk_upd _ _ _ _ hs, rs_S_upd _ _ _ _ hs, if_pos (Int32.le_refl 0)] at K
      have mk1 : rs_mk c (16 * H + j) = 1 := if_neg y
      rw [mk1] at K
      refine nm_r (e' := rs_S c0 256 - (rs_S c 256 + (0 - c (16 * H + j)))) (by grind) (nm_r (e' := rs_S (rs_mk c) 256 + (0 - 1)) (by grind) ⟨hv, nm_e (nm_r (nI_1 _) K)⟩)
/-- the reference: what stays moves down -/
def rs_fg (H n : Nat) (S : Nat → Nat) (A : Nat → Int32) (i m : Nat) (S' : Nat → Nat) (h p q a : Nat → Int32) : Prop :=
  m ≤ i ∧ (∀ j, j < m ∨ (i ≤ j ∧ j < n) → S' j < 256 ∧ (-100 ≤ a j ∧ a j ≤ 100) ∧ h j = nI (S' j / 16) ∧ p j = nI (S' j / 4 % 4) ∧ q j = nI (S' j % 4)) ∧ (∀ j, i ≤ j → j < n → S' j = S j ∧ a j = A j) ∧ ∀ s, rs_G S' a m s = if s / 16 = H then [] else rs_G S A i s
theorem rs_y16 (post : Int32 → SY → Prop) (H : Nat) (hH : H < 16) (n : Nat) (hn : n ≤ 400) (S : Nat → Nat) (A hb sb ob : Nat → Int32)
    (hp : ∀ (m : Nat) (S' : Nat → Nat) (h p q a : Nat → Int32), rs_fg H n S A n m S' h p q a → post (nI n - nI m) (nI m, h, p, q, a, hb, sb, ob)) :
    ∀ d i : Nat, i + d = n → ∀ (m : Nat) (S' : Nat → Nat) (h p q a : Nat → Int32), rs_fg H n S A i m S' h p q a → wY_forget_16 post (nI H) (nI n) (d + 1) (nI m) (nI i) h p q a hb sb ob := by
  intro d
  induction d with
  | zero =>
    intro i hi m S' h p q a I
    have hi' : i = n := by omega
    subst hi'
    exact br_t (Int32.le_refl _) (nm_e (hp m S' h p q a I))
  | succ d ih =>
    intro i hi m S' h p q a I
    have hi' : i < n := by omega
    obtain ⟨I1, I2, I3, I4⟩ := I
    obtain ⟨J1, J2, J3, J4, J5⟩ := I2 i (Or.inr ⟨Nat.le_refl i, hi'⟩)
    obtain ⟨L1, L2⟩ := I3 i (Nat.le_refl i) hi'
    have hv : vp_in (nI i) 400 := vp_in_nI (by omega) (by omega)
    have hw : vp_in (nI m) 400 := vp_in_nI (by omega) (by omega)
    refine br_f (nI_ge hi' (by omega)) ⟨hv, ?_⟩
    rw [nI_clamp (n := i) (by omega), nI_clamp (n := m) (by omega)]
    refine pk_eq (S' i / 16) H (fun y => nm_r (nI_1 i) (ih (i + 1) (by omega) m S' h p q a ⟨by omega, fun j hj => I2 j (by omega), fun j h1 h2 => I3 j (by omega) h2, fun s => ?_⟩)) (fun y => ?_) J3
    · rw [I4 s, rs_G_s]
      by_cases z : s / 16 = H
      · rw [if_pos z, if_pos z]
      · rw [if_neg z, if_neg z, if_neg (by intro r; rw [L1, r] at y; exact z y)]
    · refine ⟨hv, hw, nm_e ⟨hv, hw, nm_e ⟨hv, hw, nm_e ⟨hv, hw, nm_e (nm_r (nI_1 m) (nm_r (nI_1 i) (ih (i + 1) (by omega) (m + 1) (fun j => if j = m then S' i else S' j) _ _ _ _ ⟨by omega, fun j hj => ?_, fun j h1 h2 => ?_, fun s => ?_⟩)))⟩⟩⟩⟩
      · by_cases z : j = m
        · subst z
          dsimp only
          rw [if_pos rfl, pk_us, pk_us, pk_us, pk_us]
          exact ⟨J1, J2, J3, J4, J5⟩
        · dsimp only
          rw [if_neg z, pk_un z, pk_un z, pk_un z, pk_un z]
          exact I2 j (by omega)
      · have z : j ≠ m := by omega
        dsimp only
        rw [if_neg z, pk_un z]
        exact I3 j (by omega) h2
      · rw [rs_G_add, I4 s, rs_G_s, L1, L2]
        by_cases z : s / 16 = H
        · rw [if_pos z, if_pos z]
          exact if_neg (by intro r; rw [L1, r] at y; exact y z)
        · rw [if_neg z, if_neg z]
theorem rs_tot {n : Nat} {S : Nat → Nat} {h p q a c w l g : Nat → Int32} (hn : n ≤ 400) (hE : rs_ev n S h p q a) (hS : rs_st n S a c w l g) : rs_S c 256 = nI n := by
  have k := rs_fub S a (fun _ => 1) (fun _ => true) 256 n (fun i hi => (hE i hi).1)
  have k1 : rs_S c 256 = rs_S (fun s => if true = true then rs_W (fun _ => 1) (rs_G S a n s) else 0) 256 := rs_S_congr 256 (fun s hs => by
    rw [if_pos rfl, rs_W_len]; exact (hS s hs).1)
  rw [k1, k]
  have k2 := rs_N_S (fun _ => true) n
  have k3 : ∀ m, rs_N (fun _ => true) m = m := by
    intro m
    induction m with
    | zero => rfl
    | succ m ih => rw [rs_N_s, ih, if_pos rfl]
  rw [k3] at k2
  exact k2
theorem i_vc_forget {k : Nat} {u : SX} {v : SY} (I : i_Rel k u v) (hk : k + 5 ≤ 2560) (v1 : Int32) : wpX_forget (fun r u' => wpY_forget (fun r' v' => r' = r ∧ i_Rel (k + 5) u' v') v v1) u v1 := by
  obtain ⟨e, t, c, w, l, g, gc, gs⟩ := u
  obtain ⟨z, h, p, q, a, hb, sb, ob⟩ := v
  have J : rs_R e t c w l g z h p q a := I
  obtain ⟨n, S, hn, e1, e2, ht, hE, hS⟩ := id J
  subst e1 e2
  unfold wpX_forget wpY_forget
  dsimp only
  by_cases y0 : v1 < 0
  · exact br_t y0 (br_t y0 ⟨rfl, J⟩)
  · refine br_f y0 ?_
    by_cases y1 : v1 < 16
    · obtain ⟨H, hH', rfl⟩ := nI_of y0
      have hH : H < 16 := (nI_ltI (b := 16) hH' (by omega)).mp y1
      have y2 : nI H ≤ 15 := nI_le (b := 15) (by omega) (by omega)
      refine br_t y1 (nm_r (e' := nI (H * 16)) (pk_mul H 16) ⟨16 + 1, ?_⟩)
      have K : ∀ post : Int32 → SX → Prop, (∀ c' : Nat → Int32, (∀ s, s < 256 → c' s = if s / 16 = H then 0 else c s) → post (rs_S c 256 - rs_S c' 256) (nI n - (rs_S c 256 - rs_S c' 256), rs_S (rs_mk c') 256, c', w, l, g, gc, gs)) →
          wX_forget_22 post (nI (H * 16)) (nI n) (16 + 1) 0 (nI (H * 16)) t c w l g gc gs := by
        intro post hp
        have K := rs_x22 post H hH (nI n) c w l g gc gs (fun s hs y => (rs_c0 hn hS hs).mpr ((rs_cp hn hS hs).mp y)) hp 16 0 rfl c (fun s hs => by rw [if_neg (by omega)])
        rw [Int32.sub_self, ← ht, show 16 * H + 0 = H * 16 from by omega] at K
        exact K
      refine K _ (fun c' hc' => br_f y0 (br_t y2 ⟨n + 1, ?_⟩))
      refine rs_y16 _ H hH n hn S a hb sb ob (fun m S' h' p' q' a' G => ?_) n 0 (by omega) 0 S h p q a ⟨by omega, fun j hj => hE j (by omega), fun j _ _ => ⟨rfl, rfl⟩, fun s => ?_⟩
      · obtain ⟨G1, G2, G3, G4⟩ := G
        have hm : m ≤ 400 := by omega
        have hE' : rs_ev m S' h' p' q' a' := fun i hi => G2 i (Or.inl hi)
        have hS' : rs_st m S' a' c' w l g := by
          intro s hs
          rw [G4 s, hc' s hs]
          by_cases y : s / 16 = H
          · rw [if_pos y, if_pos y]
            exact ⟨rfl, fun r => absurd rfl r⟩
          · rw [if_neg y, if_neg y]
            exact hS s hs
        rw [rs_tot hn hE hS, rs_tot hm hE' hS']
        exact ⟨rfl, m, S', hm, by grind, rfl, rfl, hE', hS'⟩
      · by_cases y : s / 16 = H
        · rw [if_pos y]; rfl
        · rw [if_neg y]
    · have y2 : ¬ v1 ≤ 15 := fun r => y1 (Int32.lt_of_le_of_lt r (by decide +kernel))
      exact br_f y1 (br_f y0 (br_f y2 ⟨rfl, J⟩))
end
section
/-! the groups, and sumFor -/
def rs_any (P : Nat → Bool) : Nat → Bool
  | 0 => false
  | j + 1 => rs_any P j || P j
theorem rs_any_s (P : Nat → Bool) (j : Nat) : rs_any P (j + 1) = (rs_any P j || P j) := rfl
theorem rs_any_iff (P : Nat → Bool) (n : Nat) : rs_any P n = true ↔ ∃ i, i < n ∧ P i = true := by
  induction n with
  | zero => exact ⟨fun y => absurd y Bool.false_ne_true, fun ⟨i, hi, _⟩ => absurd hi (by omega)⟩
  | succ n ih =>
    rw [rs_any_s, Bool.or_eq_true, ih]
    constructor
    · rintro (⟨i, hi, y⟩ | y)
      · exact ⟨i, by omega, y⟩
      · exact ⟨n, by omega, y⟩
    · rintro ⟨i, hi, y⟩
      by_cases e : i = n
      · subst e; exact Or.inr y
      · exact Or.inl ⟨i, by omega, y⟩
theorem rs_any_ex {n : Nat} {S : Nat → Nat} {h p q a c w l g : Nat → Int32} (hn : n ≤ 400) (hE : rs_ev n S h p q a) (hS : rs_st n S a c w l g) (P R : Nat → Bool)
    (hR : ∀ s, s < 256 → R s = (decide (¬ c s ≤ 0) && P s)) : rs_any R 256 = rs_any (fun i => P (S i)) n := by
  refine Bool.eq_iff_iff.mpr ?_
  rw [rs_any_iff, rs_any_iff]
  constructor
  · rintro ⟨s, hs, y⟩
    rw [hR s hs, Bool.and_eq_true, decide_eq_true_iff, rs_cp hn hS hs] at y
    obtain ⟨x, hx⟩ := List.exists_mem_of_ne_nil _ y.1
    obtain ⟨i, hi, e1, e2⟩ := (rs_G_mem S a n s x).mp hx
    exact ⟨i, hi, by rw [e1]; exact y.2⟩
  · rintro ⟨i, hi, y⟩
    have hs := (hE i hi).1
    refine ⟨S i, hs, ?_⟩
    rw [hR (S i) hs, Bool.and_eq_true, decide_eq_true_iff, rs_cp hn hS hs]
    refine ⟨fun z => ?_, y⟩
    have hm : a i ∈ rs_G S a n (S i) := (rs_G_mem S a n (S i) (a i)).mpr ⟨i, hi, rfl, rfl⟩
    rw [z] at hm
    cases hm
/-- what passes and lies in group v, over the sorts -/
def rs_pg (F b v s : Nat) : Bool := rs_p F s && decide (rs_g b s = v)
def rs_Qg (c : Nat → Int32) (F b v s : Nat) : Bool := rs_Q c F s && decide (rs_g b s = v)
theorem rs_Qg_r (c : Nat → Int32) (F b v s : Nat) : rs_Qg c F b v s = (decide (¬ c s ≤ 0) && rs_pg F b v s) := by
  unfold rs_Qg rs_Q rs_pg
  rw [Bool.and_assoc]
def rs_XC (c V : Nat → Int32) (F b v j : Nat) : Int32 := rs_S (fun s => if rs_Qg c F b v s = true then V s else 0) j
theorem rs_XC_n {c V : Nat → Int32} {F b v j : Nat} (k : rs_Q c F j = false) : rs_XC c V F b v (j + 1) = rs_XC c V F b v j := by
  unfold rs_XC
  rw [rs_S_s]
  rw [rs_f_f (by unfold rs_Qg; rw [k, Bool.false_and]), Int32.add_zero]
theorem rs_XC_o {c V : Nat → Int32} {F b v j : Nat} (k : v ≠ rs_g b j) : rs_XC c V F b v (j + 1) = rs_XC c V F b v j := by
  unfold rs_XC
  rw [rs_S_s]
  rw [rs_f_f (by unfold rs_Qg; rw [decide_eq_false (fun y => k y.symm), Bool.and_false]), Int32.add_zero]
theorem rs_XC_y {c V : Nat → Int32} {F b j : Nat} (k : rs_Q c F j = true) : rs_XC c V F b (rs_g b j) (j + 1) = rs_XC c V F b (rs_g b j) j + V j := by
  unfold rs_XC
  rw [rs_S_s]
  rw [rs_f_t (by unfold rs_Qg; rw [k, decide_eq_true rfl]; rfl)]
theorem rs_xg30 (post : SX → Prop) (F b : Nat) (hF : F < 262144) (hb : b < 3) (e t : Int32) (c w l g : Nat → Int32)
    (hp : ∀ gc gs : Nat → Int32, (∀ v, v < 16 → gc v = rs_XC c c F b v 256 ∧ gs v = rs_XC c w F b v 256) → post (e, t, c, w, l, g, gc, gs)) :
    ∀ d j : Nat, j + d = 256 → ∀ gc gs : Nat → Int32, (∀ v, v < 16 → gc v = rs_XC c c F b v j ∧ gs v = rs_XC c w F b v j) → wX_gatherGroups_30 post (nI F) (nI b) e t (d + 1) (nI j) c w l g gc gs := by
  intro d
  induction d with
  | zero =>
    intro j hj gc gs I
    have hj' : j = 256 := by omega
    subst hj'
    exact br_t (Int32.le_refl _) (hp gc gs I)
  | succ d ih =>
    intro j hj gc gs I
    have hj' : j < 256 := by omega
    have hg : rs_g b j < 16 := rs_g_lt hj'
    have hv : vp_in (nI j) 256 := vp_in_nI hj' (by omega)
    have hw : vp_in (nI (rs_g b j)) 16 := vp_in_nI hg (by omega)
    refine br_f (nI_ge (b := 256) hj' (by omega)) ?_
    refine rs_hp _ e t c w l g gc gs j F hj' hF (fun k => ?_) (fun k => ?_)
    · refine br_f rs_n10 (rs_go _ j b hj' hb ?_)
      rw [nI_clamp (n := j) (by omega), nI_clamp (n := rs_g b j) (by omega)]
      refine ⟨hw, hv, hw, nm_e ⟨hw, hv, hw, nm_e (nm_r (nI_1 j) (ih (j + 1) (by omega) _ _ (fun v hv' => ?_)))⟩⟩
      by_cases y : v = rs_g b j
      · subst y
        rw [pk_us, pk_us, rs_XC_y k, rs_XC_y k, (I _ hg).1, (I _ hg).2]
        exact ⟨rfl, rfl⟩
      · rw [pk_un y, pk_un y, rs_XC_o y, rs_XC_o y]
        exact I v hv'
    · refine br_t rfl (nm_r (nI_1 j) (ih (j + 1) (by omega) gc gs (fun v hv' => ?_)))
      rw [rs_XC_n k, rs_XC_n k]
      exact I v hv'
theorem rs_xg2 (post : SX → Prop) (x1 x2 e t : Int32) (c w l g : Nat → Int32)
    (hp : ∀ gc gs : Nat → Int32, (∀ v, v < 16 → gc v = 0 ∧ gs v = 0) → ∃ n30 : Nat, wX_gatherGroups_30 post x1 x2 e t n30 0 c w l g gc gs) :
    ∀ d j : Nat, j + d = 16 → ∀ gc gs : Nat → Int32, (∀ v, v < j → gc v = 0 ∧ gs v = 0) → wX_gatherGroups_2 post x1 x2 e t (d + 1) (nI j) c w l g gc gs := by
  intro d
  induction d with
  | zero =>
    intro j hj gc gs I
    have hj' : j = 16 := by omega
    subst hj'
    exact br_t (Int32.le_refl _) (hp gc gs I)
  | succ d ih =>
    intro j hj gc gs I
    have hj' : j < 16 := by omega
    have hv : vp_in (nI j) 16 := vp_in_nI hj' (by omega)
    refine br_f (nI_ge (b := 16) hj' (by omega)) ?_
    rw [nI_clamp (n := j) (by omega)]
    refine ⟨hv, nm_e ⟨hv, nm_e (nm_r (nI_1 j) (ih (j + 1) (by omega) _ _ (fun v hv' => ?_)))⟩⟩
    by_cases y : v = j
    · subst y
      rw [pk_us, pk_us]
      exact ⟨rfl, rfl⟩
    · rw [pk_un y, pk_un y]
      exact I v (by omega)
theorem rs_xgat (post : SX → Prop) (F b : Nat) (hF : F < 262144) (hb : b < 3) (e t : Int32) (c w l g gc gs : Nat → Int32)
    (hp : ∀ gc gs : Nat → Int32, (∀ v, v < 16 → gc v = rs_XC c c F b v 256 ∧ gs v = rs_XC c w F b v 256) → post (e, t, c, w, l, g, gc, gs)) : wpX_gatherGroups post (e, t, c, w, l, g, gc, gs) (nI F) (nI b) := by
  unfold wpX_gatherGroups
  dsimp only
  exact ⟨16 + 1, rs_xg2 post (nI F) (nI b) e t c w l g (fun gc' gs' I => ⟨256 + 1, rs_xg30 post F b hF hb e t c w l g hp 256 0 rfl gc' gs' I⟩) 16 0 rfl gc gs (fun v hv => absurd hv (by omega))⟩
/-- the same over the events -/
def rs_YC (S : Nat → Nat) (a : Nat → Int32) (F b v j : Nat) : Int32 := rs_S (fun i => if rs_pg F b v (S i) = true then a i else 0) j
def rs_YM (S : Nat → Nat) (F b v j : Nat) : Bool := rs_any (fun i => rs_pg F b v (S i)) j
theorem rs_YC_n {S : Nat → Nat} {a : Nat → Int32} {F b v j : Nat} (k : rs_pg F b v (S j) = false) : rs_YC S a F b v (j + 1) = rs_YC S a F b v j ∧ rs_YM S F b v (j + 1) = rs_YM S F b v j := by
  unfold rs_YC rs_YM
  rw [rs_S_s, rs_any_s]
  rw [rs_f_f k, Int32.add_zero, k, Bool.or_false]
  exact ⟨rfl, rfl⟩
theorem rs_YC_y {S : Nat → Nat} {a : Nat → Int32} {F b v j : Nat} (k : rs_pg F b v (S j) = true) : rs_YC S a F b v (j + 1) = rs_YC S a F b v j + a j ∧ rs_YM S F b v (j + 1) = true := by
  unfold rs_YC rs_YM
  rw [rs_S_s, rs_any_s]
  rw [rs_f_t k, k, Bool.or_true]
  exact ⟨rfl, rfl⟩
theorem rs_ypart (post : Int32 → Prop) {n : Nat} {S : Nat → Nat} {h p q a : Nat → Int32} (hn : n ≤ 400) (hE : rs_ev n S h p q a) (z : Int32) (hb sb ob : Nat → Int32) {i b : Nat} (hi : i < n) (hb3 : b < 3) (k : post (nI (rs_g b (S i)))) : wpY_part post (z, h, p, q, a, hb, sb, ob) (nI b) (nI i) := by
  have hv : vp_in (nI i) 400 := vp_in_nI (by omega) (by omega)
  obtain ⟨_, _, h1, h2, h3⟩ := hE i hi
  unfold wpY_part
  dsimp only
  rw [nI_clamp (n := i) (by omega), h1, h2, h3]
  rcases (by omega : b = 0 ∨ b = 1 ∨ b = 2) with rfl | rfl | rfl
  · exact br_t rfl ⟨hv, k⟩
  · exact br_f (by decide +kernel) (br_t rfl ⟨hv, k⟩)
  · exact br_f (by decide +kernel) (br_f (by decide +kernel) ⟨hv, k⟩)
theorem rs_yg30 (post : SY → Prop) (F b : Nat) (hF : F < 262144) (hb3 : b < 3) {n : Nat} {S : Nat → Nat} {h p q a : Nat → Int32} (hn : n ≤ 400) (hE : rs_ev n S h p q a) (ob : Nat → Int32)
    (hp : ∀ hb sb : Nat → Int32, (∀ v, v < 16 → hb v = rs_b (rs_YM S F b v n) ∧ sb v = rs_YC S a F b v n) → post (nI n, h, p, q, a, hb, sb, ob)) :
    ∀ d j : Nat, j + d = n → ∀ hb sb : Nat → Int32, (∀ v, v < 16 → hb v = rs_b (rs_YM S F b v j) ∧ sb v = rs_YC S a F b v j) → wY_gather_30 post (nI F) (nI b) (nI n) (d + 1) (nI j) h p q a hb sb ob := by
  intro d
  induction d with
  | zero =>
    intro j hj hb sb I
    have hj' : j = n := by omega
    subst hj'
    exact br_t (Int32.le_refl _) (hp hb sb I)
  | succ d ih =>
    intro j hj hb sb I
    have hj' : j < n := by omega
    have hs : S j < 256 := (hE j hj').1
    have hg : rs_g b (S j) < 16 := rs_g_lt hs
    have hv : vp_in (nI j) 400 := vp_in_nI (by omega) (by omega)
    have hw : vp_in (nI (rs_g b (S j))) 16 := vp_in_nI hg (by omega)
    refine br_f (nI_ge hj' (by omega)) ?_
    refine rs_yps _ (nI F) j (by omega) (nI n) h p q a hb sb ob (fun k => ?_) (fun k => ?_)
    · rw [rs_py hE hF hj'] at k
      refine br_f rs_n10 (rs_ypart _ hn hE (nI n) hb sb ob hj' hb3 ?_)
      rw [nI_clamp (n := j) (by omega), nI_clamp (n := rs_g b (S j)) (by omega), rs_nb1]
      refine ⟨hw, nm_e ⟨hw, hv, hw, nm_e (nm_r (nI_1 j) (ih (j + 1) (by omega) _ _ (fun v hv' => ?_)))⟩⟩
      by_cases y : v = rs_g b (S j)
      · subst y
        have k' : rs_pg F b (rs_g b (S j)) (S j) = true := by
          unfold rs_pg
          rw [k, decide_eq_true rfl]
          rfl
        rw [pk_us, pk_us, (rs_YC_y (a := a) k').1, (rs_YC_y (a := a) k').2, (I _ hg).2]
        exact ⟨rfl, rfl⟩
      · have k' : rs_pg F b v (S j) = false := by
          unfold rs_pg
          rw [decide_eq_false (fun z => y z.symm), Bool.and_false]
        rw [pk_un y, pk_un y, (rs_YC_n (a := a) k').1, (rs_YC_n (a := a) k').2]
        exact I v hv'
    · rw [rs_py hE hF hj'] at k
      refine br_t rfl (nm_r (nI_1 j) (ih (j + 1) (by omega) hb sb (fun v hv' => ?_)))
      have k' : rs_pg F b v (S j) = false := by
        unfold rs_pg
        rw [k, Bool.false_and]
      rw [(rs_YC_n (a := a) k').1, (rs_YC_n (a := a) k').2]
      exact I v hv'
theorem rs_yg2 (post : SY → Prop) (x1 x2 z : Int32) (h p q a ob : Nat → Int32)
    (hp : ∀ hb sb : Nat → Int32, (∀ v, v < 16 → hb v = 0 ∧ sb v = 0) → ∃ n30 : Nat, wY_gather_30 post x1 x2 z n30 0 h p q a hb sb ob) :
    ∀ d j : Nat, j + d = 16 → ∀ hb sb : Nat → Int32, (∀ v, v < j → hb v = 0 ∧ sb v = 0) → wY_gather_2 post x1 x2 z (d + 1) (nI j) h p q a hb sb ob := by
  intro d
  induction d with
  | zero =>
    intro j hj hb sb I
    have hj' : j = 16 := by omega
    subst hj'
    exact br_t (Int32.le_refl _) (hp hb sb I)
  | succ d ih =>
    intro j hj hb sb I
    have hj' : j < 16 := by omega
    have hv : vp_in (nI j) 16 := vp_in_nI hj' (by omega)
    refine br_f (nI_ge (b := 16) hj' (by omega)) ?_
    rw [nI_clamp (n := j) (by omega), rs_nb0]
    refine ⟨hv, nm_e ⟨hv, nm_e (nm_r (nI_1 j) (ih (j + 1) (by omega) _ _ (fun v hv' => ?_)))⟩⟩
    by_cases y : v = j
    · subst y
      rw [pk_us, pk_us]
      exact ⟨rfl, rfl⟩
    · rw [pk_un y, pk_un y]
      exact I v (by omega)
theorem rs_ygat (post : SY → Prop) (F b : Nat) (hF : F < 262144) (hb3 : b < 3) {n : Nat} {S : Nat → Nat} {h p q a : Nat → Int32} (hn : n ≤ 400) (hE : rs_ev n S h p q a) (hb sb ob : Nat → Int32)
    (hp : ∀ hb sb : Nat → Int32, (∀ v, v < 16 → hb v = rs_b (rs_YM S F b v n) ∧ sb v = rs_YC S a F b v n) → post (nI n, h, p, q, a, hb, sb, ob)) : wpY_gather post (nI n, h, p, q, a, hb, sb, ob) (nI F) (nI b) := by
  unfold wpY_gather
  dsimp only
  exact ⟨16 + 1, rs_yg2 post (nI F) (nI b) (nI n) h p q a ob (fun hb' sb' I => ⟨n + 1, rs_yg30 post F b hF hb3 hn hE ob hp n 0 (by omega) hb' sb' I⟩) 16 0 rfl hb sb (fun v hv => absurd hv (by omega))⟩
/-- both gather the same -/
theorem rs_gsum {n : Nat} {S : Nat → Nat} {h p q a c w l g : Nat → Int32} (hn : n ≤ 400) (hE : rs_ev n S h p q a) (hS : rs_st n S a c w l g) (F b v : Nat) : rs_XC c w F b v 256 = rs_YC S a F b v n :=
  rs_ex hn hE hS (fun x => x) w (rs_Vw hS) (rs_pg F b v) (rs_Qg c F b v) (fun s _ => rs_Qg_r c F b v s)
theorem rs_gcnt {n : Nat} {S : Nat → Nat} {h p q a c w l g : Nat → Int32} (hn : n ≤ 400) (hE : rs_ev n S h p q a) (hS : rs_st n S a c w l g) (F b v : Nat) : rs_XC c c F b v 256 ≤ 0 ↔ rs_YM S F b v n = false := by
  have k : rs_XC c c F b v 256 = nI (rs_N (fun i => rs_pg F b v (S i)) n) := by
    rw [← rs_N_S]
    exact rs_ex hn hE hS (fun _ => 1) c (rs_Vc hS) (rs_pg F b v) (rs_Qg c F b v) (fun s _ => rs_Qg_r c F b v s)
  have hl := rs_N_le (fun i => rs_pg F b v (S i)) n
  have k2 : nI (rs_N (fun i => rs_pg F b v (S i)) n) ≤ nI 0 ↔ rs_N (fun i => rs_pg F b v (S i)) n ≤ 0 := nI_leI (by omega) (by omega)
  rw [nI_0] at k2
  rw [k, k2]
  have k3 := rs_N_pos (fun i => rs_pg F b v (S i)) n
  rw [← rs_any_iff] at k3
  unfold rs_YM
  constructor
  · intro y
    refine rs_bt (fun r => ?_)
    have := k3.mpr r
    omega
  · intro y
    rw [y] at k3
    have : ¬ 0 < rs_N (fun i => rs_pg F b v (S i)) n := fun r => Bool.false_ne_true (k3.mp r)
    omega
end
section
/-! sumFor -/
theorem rs_xsf (post : Int32 → Prop) (F b : Nat) (hF : F < 262144) (hb : b < 3) (x3 e t : Int32) (c w l g gc gs f : Nat → Int32) (P : Nat → Bool)
    (hP : ∀ s, P s = (decide (nI (rs_g b s) = x3) && rs_Q c F s)) (f1 : ∀ s, P s = true → f s = w s) (f0 : ∀ s, P s = false → f s = 0)
    (h0 : rs_any P 256 = false → post (-1000000)) (h1 : rs_any P 256 = true → post (rs_S f 256)) :
    ∀ d j : Nat, j + d = 256 → wX_sumFor_26 post (nI F) (nI b) x3 e t c w l g gc gs (d + 1) (rs_b (rs_any P j)) (rs_S f j) (nI j) := by
  intro d
  induction d with
  | zero =>
    intro j hj
    have hj' : j = 256 := by omega
    subst hj'
    refine br_t (Int32.le_refl _) ?_
    cases y : rs_any P 256
    · exact br_t rfl (h0 y)
    · exact br_f rs_n10 (h1 y)
  | succ d ih =>
    intro j hj
    have hj' : j < 256 := by omega
    have hv : vp_in (nI j) 256 := vp_in_nI hj' (by omega)
    have K := ih (j + 1) (by omega)
    rw [rs_any_s, rs_S_s] at K
    have N : P j = false → wX_sumFor_26 post (nI F) (nI b) x3 e t c w l g gc gs (d + 1) (rs_b (rs_any P j)) (rs_S f j) (nI (j + 1)) := by
      intro y
      rw [y, f0 j y, Bool.or_false, Int32.add_zero] at K
      exact K
    refine br_f (nI_ge (b := 256) hj' (by omega)) ?_
    refine rs_go _ j b hj' hb ?_
    refine br_c (fun y => ?_) (fun y => nm_r (nI_1 j) (N (by rw [hP, decide_eq_false y, Bool.false_and])))
    refine rs_hp _ e t c w l g gc gs j F hj' hF (fun k => ?_) (fun k => br_t rfl (nm_r (nI_1 j) (N (by rw [hP, k, Bool.and_false]))))
    have y2 : P j = true := by rw [hP, k, decide_eq_true y]; rfl
    rw [y2, f1 j y2, Bool.or_true] at K
    refine br_f rs_n10 ⟨hv, ?_⟩
    rw [nI_clamp (n := j) (by omega)]
    exact nm_e (nm_r (nI_1 j) K)
theorem rs_ysf (post : Int32 → SY → Prop) (F b : Nat) (hF : F < 262144) (hb3 : b < 3) {n : Nat} {S : Nat → Nat} {h p q a : Nat → Int32} (hn : n ≤ 400) (hE : rs_ev n S h p q a) (hb sb ob : Nat → Int32) (x : Int32)
    (k0 : (∀ v, v < 16 → x = nI v → rs_YM S F b v n = false) → ∀ hb sb : Nat → Int32, post (-1000000) (nI n, h, p, q, a, hb, sb, ob))
    (k1 : ∀ v, v < 16 → x = nI v → rs_YM S F b v n = true → ∀ hb sb : Nat → Int32, post (rs_YC S a F b v n) (nI n, h, p, q, a, hb, sb, ob)) :
    wpY_sumFor post (nI n, h, p, q, a, hb, sb, ob) (nI F) (nI b) x := by
  unfold wpY_sumFor
  refine rs_yf1 _ hF _ (br_f rs_n10 ?_)
  refine pk_lt b 0 (fun y => by omega) (fun _ => pk_lt 2 b (fun y => by omega) (fun _ => ?_))
  refine br_c (fun y => ?_) (fun y => br_c (fun y2 => ?_) (fun y2 => ?_))
  · refine k0 (fun v hv e => ?_) hb sb
    rw [e] at y
    exact absurd y (nI_pos (by omega))
  · obtain ⟨v, hv, rfl⟩ := nI_of2 (n := 15) (by decide +kernel) y y2
    refine rs_ygat _ F b hF hb3 hn hE hb sb ob (fun hb' sb' I => ?_)
    have hw : vp_in (nI v) 16 := vp_in_nI (by omega) (by omega)
    dsimp only
    rw [nI_clamp (n := v) (by omega), (I v (by omega)).1, (I v (by omega)).2]
    refine ⟨hw, ?_⟩
    cases r : rs_YM S F b v n
    · refine br_t rfl (k0 (fun v' hv' e => ?_) hb' sb')
      have e' : v = v' := (nI_eq (by omega) (by omega)).mp e
      rw [← e']
      exact r
    · exact br_f rs_n10 ⟨hw, k1 v (by omega) rfl r hb' sb'⟩
  · refine k0 (fun v hv e => ?_) hb sb
    rw [e] at y2
    exact absurd (nI_le (b := 15) (by omega) (by omega)) y2
theorem i_vc_sumFor {k : Nat} {u : SX} {v : SY} (I : i_Rel k u v) (hk : k + 5 ≤ 2560) (v1 : Int32) (v2 : Int32) (v3 : Int32) : wpX_sumFor (fun r => wpY_sumFor (fun r' v' => r' = r ∧ i_Rel (k + 5) u v') v v1 v2 v3) u v1 v2 v3 := by
  obtain ⟨e, t, c, w, l, g, gc, gs⟩ := u
  obtain ⟨z, h, p, q, a, hb, sb, ob⟩ := v
  have J : rs_R e t c w l g z h p q a := I
  obtain ⟨n, S, hn, e1, e2, ht, hE, hS⟩ := id J
  subst e1 e2
  unfold wpX_sumFor
  dsimp only
  rcases rs_ff v1 with ⟨F, hF, rfl⟩ | hf
  · refine rs_xf1 _ hF (br_f rs_n10 ?_)
    rcases rs_bb v2 with ⟨b, hb3, rfl⟩ | hbb
    · refine rs_xg1 _ hb3 (br_f rs_n10 ⟨256 + 1, ?_⟩)
      have hA : ∀ x, x < 16 → v3 = nI x → rs_any (fun s => decide (nI (rs_g b s) = v3) && rs_Q c F s) 256 = rs_YM S F b x n ∧ rs_S (fun s => if (decide (nI (rs_g b s) = v3) && rs_Q c F s) = true then w s else 0) 256 = rs_YC S a F b x n := by
        intro x hx ex
        subst ex
        have hR : ∀ s, s < 256 → (decide (nI (rs_g b s) = nI x) && rs_Q c F s) = (decide (¬ c s ≤ 0) && rs_pg F b x s) := by
          intro s hs
          have hg : rs_g b s < 16 := rs_g_lt hs
          rw [← rs_Qg_r]
          unfold rs_Qg
          rw [Bool.and_comm, decide_eq_decide.mpr (nI_eq (by omega) (by omega))]
        exact ⟨rs_any_ex hn hE hS (rs_pg F b x) _ hR, rs_ex hn hE hS (fun x => x) w (rs_Vw hS) (rs_pg F b x) _ hR⟩
      have hB : rs_any (fun s => decide (nI (rs_g b s) = v3) && rs_Q c F s) 256 = true → ∃ x, x < 16 ∧ v3 = nI x := by
        intro y
        obtain ⟨s, hs, y⟩ := (rs_any_iff _ _).mp y
        rw [Bool.and_eq_true, decide_eq_true_iff] at y
        exact ⟨rs_g b s, rs_g_lt hs, y.1.symm⟩
      refine rs_xsf _ F b hF hb3 v3 (nI n) t c w l g gc gs (fun s => if (decide (nI (rs_g b s) = v3) && rs_Q c F s) = true then w s else 0) (fun s => decide (nI (rs_g b s) = v3) && rs_Q c F s) (fun s => rfl) (fun s y => rs_f_t y) (fun s y => rs_f_f y) (fun y => ?_) (fun y => ?_) 256 0 rfl
      · refine rs_ysf _ F b hF hb3 hn hE hb sb ob v3 (fun _ hb' sb' => ⟨rfl, J⟩) (fun x hx ex r => ?_)
        rw [(hA x hx ex).1, r] at y
        exact absurd y.symm Bool.false_ne_true
      · refine rs_ysf _ F b hF hb3 hn hE hb sb ob v3 (fun r => ?_) (fun x hx ex r hb' sb' => ⟨((hA x hx ex).2).symm, J⟩)
        obtain ⟨x, hx, ex⟩ := hB y
        rw [(hA x hx ex).1, r x hx ex] at y
        exact absurd y Bool.false_ne_true
    · refine rs_xg0 _ hbb (br_t rfl ?_)
      unfold wpY_sumFor
      refine rs_yf1 _ hF _ (br_f rs_n10 ?_)
      rcases hbb with y | y
      · exact br_t y ⟨rfl, J⟩
      · exact br_c (fun _ => ⟨rfl, J⟩) (fun _ => br_t y ⟨rfl, J⟩)
  · refine rs_xf0 _ hf (br_t rfl ?_)
    unfold wpY_sumFor
    exact rs_yf0 _ hf _ (br_t rfl ⟨rfl, J⟩)
end
section
/-! top: how many groups come before one, on both sides; then the search -/
def rs_B (m : Nat → Bool) (s : Nat → Int32) (v o : Nat) : Bool := m o && (decide (s v < s o) || (decide (s o = s v) && decide (o < v)))
theorem rs_B_0 {m : Nat → Bool} {s : Nat → Int32} {v o : Nat} (y : m o = false) : rs_B m s v o = false := by
  unfold rs_B; rw [y, Bool.false_and]
theorem rs_B_1 {m : Nat → Bool} {s : Nat → Int32} {v o : Nat} (y : s v < s o) : rs_B m s v o = m o := by
  unfold rs_B; rw [decide_eq_true y, Bool.true_or, Bool.and_true]
theorem rs_B_2 {m : Nat → Bool} {s : Nat → Int32} {v o : Nat} (y : ¬ s v < s o) (y2 : s o = s v) (y3 : o < v) : rs_B m s v o = m o := by
  unfold rs_B; rw [decide_eq_true y2, decide_eq_true y3, Bool.true_and, Bool.or_true, Bool.and_true]
theorem rs_B_3 {m : Nat → Bool} {s : Nat → Int32} {v o : Nat} (y : ¬ s v < s o) (y3 : ¬ o < v) : rs_B m s v o = false := by
  unfold rs_B; rw [decide_eq_false y, decide_eq_false y3, Bool.and_false, Bool.or_false, Bool.and_false]
theorem rs_B_4 {m : Nat → Bool} {s : Nat → Int32} {v o : Nat} (y : ¬ s v < s o) (y2 : ¬ s o = s v) : rs_B m s v o = false := by
  unfold rs_B; rw [decide_eq_false y, decide_eq_false y2, Bool.false_and, Bool.or_false, Bool.and_false]
theorem rs_N_t {P : Nat → Bool} {j : Nat} (y : P j = true) : rs_N P (j + 1) = rs_N P j + 1 := by rw [rs_N_s, if_pos y]
theorem rs_N_f {P : Nat → Bool} {j : Nat} (y : P j = false) : rs_N P (j + 1) = rs_N P j := by rw [rs_N_s, if_neg (by rw [y]; exact Bool.false_ne_true), Nat.add_zero]
theorem rs_x50 (post : Int32 → Prop) (Jj : Int32 → Int32 → Prop) (x1 : Int32) (N o : Nat) (ho : o < 16) (t0 : Bool) (e t : Int32) (c w l g gc gs : Nat → Int32) (mo : Bool) (hm : gc o ≤ 0 ↔ mo = false)
    (k1 : (mo && t0) = true → Jj (nI (N + 1)) (nI (o + 1))) (k0 : (mo && t0) = false → Jj (nI N) (nI (o + 1))) : wX_groupsBefore_50 post Jj x1 (nI N) (nI o) (rs_b t0) e t c w l g gc gs := by
  unfold wX_groupsBefore_50
  rw [nI_clamp (n := o) (by omega)]
  refine ⟨vp_in_nI ho (by omega), br_c (fun y => nm_r (nI_1 o) (k0 ?_)) (fun y => ?_)⟩
  · rw [hm.mp y, Bool.false_and]
  · have y' : mo = true := by
      cases r : mo
      · exact absurd (hm.mpr r) y
      · rfl
    rw [y', Bool.true_and] at k1 k0
    cases t0
    · exact br_t rfl (nm_r (nI_1 o) (k0 rfl))
    · exact br_f rs_n10 (nm_r (nI_1 N) (nm_r (nI_1 o) (k1 rfl)))
theorem rs_xbef (post : Int32 → Prop) (v : Nat) (hv : v < 16) (e t : Int32) (c w l g gc gs : Nat → Int32) (m : Nat → Bool) (s : Nat → Int32) (hm : ∀ o, o < 16 → (gc o ≤ 0 ↔ m o = false)) (hs : ∀ o, o < 16 → gs o = s o)
    (hp : post (nI (rs_N (rs_B m s v) 16))) : ∀ d j : Nat, j + d = 16 → wX_groupsBefore_4 post (nI v) e t c w l g gc gs (d + 1) (nI (rs_N (rs_B m s v) j)) (nI j) := by
  intro d
  induction d with
  | zero =>
    intro j hj
    have hj' : j = 16 := by omega
    subst hj'
    exact br_t (Int32.le_refl _) hp
  | succ d ih =>
    intro j hj
    have hj' : j < 16 := by omega
    have h1 : vp_in (nI j) 16 := vp_in_nI hj' (by omega)
    have h2 : vp_in (nI v) 16 := vp_in_nI hv (by omega)
    have K := ih (j + 1) (by omega)
    have X1 : rs_B m s v j = m j → wX_groupsBefore_50 post (wX_groupsBefore_4 post (nI v) e t c w l g gc gs (d + 1)) (nI v) (nI (rs_N (rs_B m s v) j)) (nI j) 1 e t c w l g gc gs := fun y =>
      rs_x50 post _ (nI v) _ j hj' true e t c w l g gc gs (m j) (hm j hj')
        (fun r => by rw [Bool.and_true, ← y] at r; rw [rs_N_t r] at K; exact K) (fun r => by rw [Bool.and_true, ← y] at r; rw [rs_N_f r] at K; exact K)
    have X0 : rs_B m s v j = false → wX_groupsBefore_50 post (wX_groupsBefore_4 post (nI v) e t c w l g gc gs (d + 1)) (nI v) (nI (rs_N (rs_B m s v) j)) (nI j) 0 e t c w l g gc gs := fun y =>
      rs_x50 post _ (nI v) _ j hj' false e t c w l g gc gs (m j) (hm j hj')
        (fun r => by rw [Bool.and_false] at r; exact absurd r Bool.false_ne_true) (fun r => by rw [rs_N_f y] at K; exact K)
    refine br_f (nI_ge (b := 16) hj' (by omega)) ⟨h1, h2, ?_⟩
    rw [nI_clamp (n := j) (by omega), nI_clamp (n := v) (by omega), hs j hj', hs v hv]
    refine br_c (fun y => X1 (rs_B_1 y)) (fun y => ⟨h1, h2, br_c (fun y2 => ?_) (fun y2 => X0 (rs_B_4 y y2))⟩)
    exact pk_le v j (fun y3 => X0 (rs_B_3 y (by omega))) (fun y3 => X1 (rs_B_2 y y2 y3))
def rs_tp (m : Nat → Bool) (s : Nat → Int32) (x : Int32) : Nat → Nat → Int32
  | 0, _ => -1
  | d + 1, j => if m j = true ∧ nI (rs_N (rs_B m s j) 16) = x then nI j else rs_tp m s x d (j + 1)
theorem rs_tp_t {m : Nat → Bool} {s : Nat → Int32} {x : Int32} {d j : Nat} (y : m j = true) (y2 : nI (rs_N (rs_B m s j) 16) = x) : rs_tp m s x (d + 1) j = nI j := if_pos ⟨y, y2⟩
theorem rs_tp_f {m : Nat → Bool} {s : Nat → Int32} {x : Int32} {d j : Nat} (y : m j = false) : rs_tp m s x (d + 1) j = rs_tp m s x d (j + 1) := if_neg (fun r => by rw [y] at r; exact Bool.false_ne_true r.1)
theorem rs_tp_n {m : Nat → Bool} {s : Nat → Int32} {x : Int32} {d j : Nat} (y : ¬ nI (rs_N (rs_B m s j) 16) = x) : rs_tp m s x (d + 1) j = rs_tp m s x d (j + 1) := if_neg (fun r => y r.2)
theorem rs_tp_neg {m : Nat → Bool} {s : Nat → Int32} {x : Int32} (hx : ¬ 0 ≤ x) : ∀ d j : Nat, rs_tp m s x d j = -1 := by
  intro d
  induction d with
  | zero => intro j; rfl
  | succ d ih =>
    intro j
    have hl := rs_N_le (rs_B m s j) 16
    rw [rs_tp_n (fun y => hx (by rw [← y]; exact nI_pos' (by omega)))]
    exact ih (j + 1)
theorem rs_xtop (post : Int32 → SX → Prop) (x e t : Int32) (c w l g gc gs : Nat → Int32) (m : Nat → Bool) (s : Nat → Int32) (hm : ∀ o, o < 16 → (gc o ≤ 0 ↔ m o = false)) (hs : ∀ o, o < 16 → gs o = s o) :
    ∀ d j : Nat, j + d = 16 → post (rs_tp m s x d j) (e, t, c, w, l, g, gc, gs) → wX_top_29 post x e t c w l g gc gs (d + 1) (nI j) := by
  intro d
  induction d with
  | zero =>
    intro j hj hp
    have hj' : j = 16 := by omega
    subst hj'
    exact br_t (Int32.le_refl _) hp
  | succ d ih =>
    intro j hj hp
    have hj' : j < 16 := by omega
    refine br_f (nI_ge (b := 16) hj' (by omega)) ⟨vp_in_nI hj' (by omega), ?_⟩
    rw [nI_clamp (n := j) (by omega)]
    refine br_c (fun y => nm_r (nI_1 j) (ih (j + 1) (by omega) ?_)) (fun y => ?_)
    · rw [rs_tp_f ((hm j hj').mp y)] at hp
      exact hp
    · have y' : m j = true := by
        cases r : m j
        · exact absurd ((hm j hj').mpr r) y
        · rfl
      unfold wpX_groupsBefore
      refine ⟨16 + 1, rs_xbef _ j hj' e t c w l g gc gs m s hm hs ?_ 16 0 rfl⟩
      refine br_c (fun r => ?_) (fun r => nm_r (nI_1 j) (ih (j + 1) (by omega) ?_))
      · rw [rs_tp_t y' r] at hp
        exact hp
      · rw [rs_tp_n r] at hp
        exact hp
theorem rs_y41 (post : Int32 → SY → Prop) (Jj : Int32 → Prop) (x : Int32) (v : Nat) (hv : v < 16) (z : Int32) (h p q a hb sb ob : Nat → Int32) (m : Nat → Bool) (s : Nat → Int32) (hm : ∀ o, o < 16 → hb o = rs_b (m o)) (hs : ∀ o, o < 16 → sb o = s o)
    (k1 : m v = true → nI (rs_N (rs_B m s v) 16) = x → post (nI v) (z, h, p, q, a, hb, sb, ob)) (k0 : m v = false ∨ ¬ nI (rs_N (rs_B m s v) 16) = x → Jj (nI (v + 1))) :
    ∀ d j : Nat, j + d = 16 → wY_top_41 post Jj x (nI v) z h p q a hb sb ob (d + 1) (nI (rs_N (rs_B m s v) j)) (nI j) := by
  have h2 : vp_in (nI v) 16 := vp_in_nI hv (by omega)
  intro d
  induction d with
  | zero =>
    intro j hj
    have hj' : j = 16 := by omega
    subst hj'
    refine br_t (Int32.le_refl _) ⟨h2, ?_⟩
    rw [nI_clamp (n := v) (by omega), hm v hv]
    cases y : m v
    · exact br_t rfl (nm_r (nI_1 v) (k0 (Or.inl y)))
    · exact br_f rs_n10 (br_c (fun r => k1 y r) (fun r => nm_r (nI_1 v) (k0 (Or.inr r))))
  | succ d ih =>
    intro j hj
    have hj' : j < 16 := by omega
    have h1 : vp_in (nI j) 16 := vp_in_nI hj' (by omega)
    have K := ih (j + 1) (by omega)
    have X0 : rs_B m s v j = false → wY_top_41 post Jj x (nI v) z h p q a hb sb ob (d + 1) (nI (rs_N (rs_B m s v) j)) (nI (j + 1)) := fun y => by
      rw [rs_N_f y] at K; exact K
    have X1 : rs_B m s v j = true → wY_top_41 post Jj x (nI v) z h p q a hb sb ob (d + 1) (nI (rs_N (rs_B m s v) j + 1)) (nI (j + 1)) := fun y => by
      rw [rs_N_t y] at K; exact K
    refine br_f (nI_ge (b := 16) hj' (by omega)) ⟨h1, ?_⟩
    rw [nI_clamp (n := j) (by omega), nI_clamp (n := v) (by omega), hm j hj', hs j hj', hs v hv]
    cases y0 : m j
    · exact br_t rfl (nm_r (nI_1 j) (X0 (rs_B_0 y0)))
    · refine br_f rs_n10 ⟨h1, h2, br_c (fun y => nm_r (nI_1 _) (nm_r (nI_1 j) (X1 ((rs_B_1 y).trans y0)))) (fun y => ⟨h1, h2, br_c (fun y2 => ?_) (fun y2 => nm_r (nI_1 j) (X0 (rs_B_4 y y2)))⟩)⟩
      exact pk_le v j (fun y3 => nm_r (nI_1 j) (X0 (rs_B_3 y (by omega)))) (fun y3 => nm_r (nI_1 _) (nm_r (nI_1 j) (X1 ((rs_B_2 y y2 y3).trans y0))))
theorem rs_ytop (post : Int32 → SY → Prop) (x z : Int32) (h p q a hb sb ob : Nat → Int32) (m : Nat → Bool) (s : Nat → Int32) (hm : ∀ o, o < 16 → hb o = rs_b (m o)) (hs : ∀ o, o < 16 → sb o = s o) :
    ∀ d j : Nat, j + d = 16 → post (rs_tp m s x d j) (z, h, p, q, a, hb, sb, ob) → wY_top_28 post x z h p q a hb sb ob (d + 1) (nI j) := by
  intro d
  induction d with
  | zero =>
    intro j hj hp
    have hj' : j = 16 := by omega
    subst hj'
    exact br_t (Int32.le_refl _) hp
  | succ d ih =>
    intro j hj hp
    have hj' : j < 16 := by omega
    refine br_f (nI_ge (b := 16) hj' (by omega)) ⟨16 + 1, rs_y41 post _ x j hj' z h p q a hb sb ob m s hm hs (fun y r => ?_) (fun r => ih (j + 1) (by omega) ?_) 16 0 rfl⟩
    · rw [rs_tp_t y r] at hp
      exact hp
    · rcases r with r | r
      · rw [rs_tp_f r] at hp
        exact hp
      · rw [rs_tp_n r] at hp
        exact hp
theorem i_vc_top {k : Nat} {u : SX} {v : SY} (I : i_Rel k u v) (hk : k + 5 ≤ 2560) (v1 : Int32) (v2 : Int32) (v3 : Int32) : wpX_top (fun r u' => wpY_top (fun r' v' => r' = r ∧ i_Rel (k + 5) u' v') v v1 v2 v3) u v1 v2 v3 := by
  obtain ⟨e, t, c, w, l, g, gc, gs⟩ := u
  obtain ⟨z, h, p, q, a, hb, sb, ob⟩ := v
  have J : rs_R e t c w l g z h p q a := I
  obtain ⟨n, S, hn, e1, e2, ht, hE, hS⟩ := id J
  subst e1 e2
  unfold wpX_top
  rcases rs_ff v1 with ⟨F, hF, rfl⟩ | hf
  · refine rs_xf1 _ hF (br_f rs_n10 ?_)
    rcases rs_bb v2 with ⟨b, hb3, rfl⟩ | hbb
    · have Y : ∀ (r : Int32) (gc gs : Nat → Int32), rs_tp (fun v => rs_YM S F b v n) (fun v => rs_YC S a F b v n) v3 16 0 = r → wpY_top (fun r' v' => r' = r ∧ i_Rel (k + 5) (nI n, t, c, w, l, g, gc, gs) v') (nI n, h, p, q, a, hb, sb, ob) (nI F) (nI b) v3 := by
        intro r gc gs er
        unfold wpY_top
        refine rs_yf1 _ hF _ (br_f rs_n10 ?_)
        refine pk_lt b 0 (fun y => by omega) (fun _ => pk_le b 2 (fun _ => ?_) (fun y => by omega))
        refine rs_ygat _ F b hF hb3 hn hE hb sb ob (fun hb' sb' I => ?_)
        exact ⟨16 + 1, rs_ytop _ v3 (nI n) h p q a hb' sb' ob _ _ (fun o ho => (I o ho).1) (fun o ho => (I o ho).2) 16 0 rfl ⟨er, J⟩⟩
      refine rs_xg1 _ hb3 (br_f rs_n10 (br_c (fun y => ?_) (fun y => ?_)))
      · refine rs_xgat _ F b hF hb3 (nI n) t c w l g gc gs (fun gc' gs' I => ?_)
        exact ⟨16 + 1, rs_xtop _ v3 (nI n) t c w l g gc' gs' (fun v => rs_YM S F b v n) (fun v => rs_YC S a F b v n) (fun o ho => by rw [(I o ho).1]; exact rs_gcnt hn hE hS F b o) (fun o ho => by rw [(I o ho).2]; exact rs_gsum hn hE hS F b o) 16 0 rfl (Y _ gc' gs' rfl)⟩
      · exact Y _ gc gs (rs_tp_neg y 16 0)
    · refine rs_xg0 _ hbb (br_t rfl ?_)
      unfold wpY_top
      refine rs_yf1 _ hF _ (br_f rs_n10 ?_)
      rcases hbb with y | y
      · exact br_t y ⟨rfl, J⟩
      · exact br_c (fun _ => ⟨rfl, J⟩) (fun _ => br_f (Int32.not_le.mpr y) ⟨rfl, J⟩)
  · refine rs_xf0 _ hf (br_t rfl ?_)
    unfold wpY_top
    exact rs_yf0 _ hf _ (br_t rfl ⟨rfl, J⟩)
end
section
/-! gaps: both walk the same 16 marks -/
def rs_gi (j : Nat) (x2 x3 x4 y2 y3 y4 : Int32) : Prop :=
  (x4 = 0 ∧ x2 = 0 ∧ x3 = 0 ∧ y2 = 16 ∧ y3 = -1 ∧ y4 = 0) ∨
  (x4 = 1 ∧ ∃ f L : Nat, f < 16 ∧ L < 16 ∧ y2 = nI f ∧ y3 = nI L ∧ x2 = ((y3 - y2) + 1) - y4 ∧ x3 = (nI j - 1) - y3)
theorem rs_y73_0 (post : Int32 → SY → Prop) (Jj : Int32 → Int32 → Int32 → Int32 → Prop) (x2 x4 z0 : Int32) (j : Nat) (hj : j < 16) (z : Int32) (h p q a hb sb ob : Nat → Int32) (m : hb j = 0) (k : Jj x2 z0 x4 (nI (j + 1))) : wY_gaps_73 post Jj x2 x4 (nI j) z0 z h p q a hb sb ob := by
  unfold wY_gaps_73
  rw [nI_clamp (n := j) (by omega)]
  exact ⟨vp_in_nI hj (by omega), br_t m (nm_r (nI_1 j) k)⟩
theorem rs_y73_1 (post : Int32 → SY → Prop) (Jj : Int32 → Int32 → Int32 → Int32 → Prop) (x2 x4 z0 : Int32) (j : Nat) (hj : j < 16) (z : Int32) (h p q a hb sb ob : Nat → Int32) (m : ¬ hb j = 0) (k : Jj x2 z0 (x4 + 1) (nI (j + 1))) : wY_gaps_73 post Jj x2 x4 (nI j) z0 z h p q a hb sb ob := by
  unfold wY_gaps_73
  rw [nI_clamp (n := j) (by omega)]
  exact ⟨vp_in_nI hj (by omega), br_f m (nm_e (nm_r (nI_1 j) k))⟩
theorem rs_y56_0 (post : Int32 → SY → Prop) (Jj : Int32 → Int32 → Int32 → Int32 → Prop) (x3 x4 z0 : Int32) (j : Nat) (hj : j < 16) (z : Int32) (h p q a hb sb ob : Nat → Int32) (m : hb j = 0) (k : Jj z0 x3 x4 (nI (j + 1))) : wY_gaps_56 post Jj x3 x4 (nI j) z0 z h p q a hb sb ob := by
  unfold wY_gaps_56
  rw [nI_clamp (n := j) (by omega)]
  exact ⟨vp_in_nI hj (by omega), br_t m (rs_y73_0 post Jj z0 x4 x3 j hj z h p q a hb sb ob m k)⟩
theorem rs_y56_1 (post : Int32 → SY → Prop) (Jj : Int32 → Int32 → Int32 → Int32 → Prop) (x3 x4 z0 : Int32) (j : Nat) (hj : j < 16) (z : Int32) (h p q a hb sb ob : Nat → Int32) (m : ¬ hb j = 0) (k : Jj z0 (nI j) (x4 + 1) (nI (j + 1))) : wY_gaps_56 post Jj x3 x4 (nI j) z0 z h p q a hb sb ob := by
  unfold wY_gaps_56
  rw [nI_clamp (n := j) (by omega)]
  exact ⟨vp_in_nI hj (by omega), br_f m (rs_y73_1 post Jj z0 x4 (nI j) j hj z h p q a hb sb ob m k)⟩
theorem rs_gap (e t : Int32) (c w l g gc gs : Nat → Int32) (z : Int32) (h p q a ob : Nat → Int32) (m : Nat → Bool) (hm : ∀ o, o < 16 → (gc o ≤ 0 ↔ m o = false)) :
    ∀ d j : Nat, j + d = 16 → ∀ x2 x3 x4 y2 y3 y4 : Int32, rs_gi j x2 x3 x4 y2 y3 y4 → ∃ r : Int32,
      (∀ post : Int32 → SX → Prop, post r (e, t, c, w, l, g, gc, gs) → wX_gaps_25 post e t c w l g gc gs (d + 1) x2 x3 x4 (nI j)) ∧
      (∀ hb sb : Nat → Int32, (∀ o, o < 16 → hb o = rs_b (m o)) → ∀ post : Int32 → SY → Prop, post r (z, h, p, q, a, hb, sb, ob) → wY_gaps_27 post z h p q a hb sb ob (d + 1) y2 y3 y4 (nI j)) := by
  intro d
  induction d with
  | zero =>
    intro j hj x2 x3 x4 y2 y3 y4 I
    have hj' : j = 16 := by omega
    subst hj'
    refine ⟨x2, fun post hp => br_t (Int32.le_refl _) hp, fun hb sb hm' post hp => br_t (Int32.le_refl _) ?_⟩
    rcases I with ⟨_, e2, _, _, e3, _⟩ | ⟨_, f, L, _, hL, _, e3, e2, _⟩
    · refine br_f (by rw [e3]; decide +kernel) ?_
      rw [e2] at hp
      exact hp
    · refine br_t (by rw [e3]; exact nI_pos' (by omega)) ?_
      rw [e2] at hp
      exact hp
  | succ d ih =>
    intro j hj x2 x3 x4 y2 y3 y4 I
    have hj' : j < 16 := by omega
    have hv : vp_in (nI j) 16 := vp_in_nI hj' (by omega)
    have ge : ¬ (16 : Int32) ≤ nI j := nI_ge (b := 16) hj' (by omega)
    have cl : (nI j).toNatClampNeg = j := nI_clamp (by omega)
    cases y : m j
    · have b0 : ∀ hb : Nat → Int32, (∀ o, o < 16 → hb o = rs_b (m o)) → hb j = 0 := fun hb hm' => by rw [hm' j hj', y]; rfl
      have g0 : gc j ≤ 0 := (hm j hj').mpr y
      rcases I with ⟨i1, i2, i3, i4, i5, i6⟩ | ⟨i1, f, L, hf, hL, i4, i5, i2, i3⟩
      · obtain ⟨r, hX, hY⟩ := ih (j + 1) (by omega) x2 x3 x4 y2 y3 y4 (Or.inl ⟨i1, i2, i3, i4, i5, i6⟩)
        refine ⟨r, fun post hp => br_f ge ⟨hv, ?_⟩, fun hb sb hm' post hp => br_f ge ⟨hv, ?_⟩⟩
        · rw [cl]
          exact br_t g0 (br_t i1 (nm_r (nI_1 j) (hX post hp)))
        · rw [cl]
          exact br_t (b0 hb hm') (rs_y56_0 post _ y3 y4 y2 j hj' z h p q a hb sb ob (b0 hb hm') (hY hb sb hm' post hp))
      · obtain ⟨r, hX, hY⟩ := ih (j + 1) (by omega) x2 (x3 + 1) x4 y2 y3 y4 (Or.inr ⟨i1, f, L, hf, hL, i4, i5, i2, by rw [i3, ← nI_1]; grind⟩)
        refine ⟨r, fun post hp => br_f ge ⟨hv, ?_⟩, fun hb sb hm' post hp => br_f ge ⟨hv, ?_⟩⟩
        · rw [cl]
          exact br_t g0 (br_f (by rw [i1]; exact rs_n10) (nm_e (nm_r (nI_1 j) (hX post hp))))
        · rw [cl]
          exact br_t (b0 hb hm') (rs_y56_0 post _ y3 y4 y2 j hj' z h p q a hb sb ob (b0 hb hm') (hY hb sb hm' post hp))
    · have b1 : ∀ hb : Nat → Int32, (∀ o, o < 16 → hb o = rs_b (m o)) → ¬ hb j = 0 := fun hb hm' => by rw [hm' j hj', y]; exact rs_n10
      have g1 : ¬ gc j ≤ 0 := fun r => by rw [(hm j hj').mp r] at y; exact Bool.false_ne_true y
      rcases I with ⟨i1, i2, i3, i4, i5, i6⟩ | ⟨i1, f, L, hf, hL, i4, i5, i2, i3⟩
      · obtain ⟨r, hX, hY⟩ := ih (j + 1) (by omega) (x2 + x3) 0 1 (nI j) (nI j) (y4 + 1) (Or.inr ⟨rfl, j, j, hj', hj', rfl, rfl, by rw [i2, i3, i6]; grind, by rw [← nI_1]; grind⟩)
        refine ⟨r, fun post hp => br_f ge ⟨hv, ?_⟩, fun hb sb hm' post hp => br_f ge ⟨hv, ?_⟩⟩
        · rw [cl]
          exact br_f g1 (nm_e (nm_r (nI_1 j) (hX post hp)))
        · rw [cl]
          exact br_f (b1 hb hm') (br_t i4 (rs_y56_1 post _ y3 y4 (nI j) j hj' z h p q a hb sb ob (b1 hb hm') (hY hb sb hm' post hp)))
      · have n16 : ¬ y2 = 16 := by
          rw [i4]
          exact fun r => absurd ((nI_eq (b := 16) (by omega) (by omega)).mp r) (by omega)
        obtain ⟨r, hX, hY⟩ := ih (j + 1) (by omega) (x2 + x3) 0 1 y2 (nI j) (y4 + 1) (Or.inr ⟨rfl, f, j, hf, hj', i4, rfl, by rw [i2, i3]; grind, by rw [← nI_1]; grind⟩)
        refine ⟨r, fun post hp => br_f ge ⟨hv, ?_⟩, fun hb sb hm' post hp => br_f ge ⟨hv, ?_⟩⟩
        · rw [cl]
          exact br_f g1 (nm_e (nm_r (nI_1 j) (hX post hp)))
        · rw [cl]
          exact br_f (b1 hb hm') (br_f n16 (rs_y56_1 post _ y3 y4 y2 j hj' z h p q a hb sb ob (b1 hb hm') (hY hb sb hm' post hp)))
theorem i_vc_gaps {k : Nat} {u : SX} {v : SY} (I : i_Rel k u v) (hk : k + 5 ≤ 2560) (v1 : Int32) : wpX_gaps (fun r u' => wpY_gaps (fun r' v' => r' = r ∧ i_Rel (k + 5) u' v') v v1) u v1 := by
  obtain ⟨e, t, c, w, l, g, gc, gs⟩ := u
  obtain ⟨z, h, p, q, a, hb, sb, ob⟩ := v
  have J : rs_R e t c w l g z h p q a := I
  obtain ⟨n, S, hn, e1, e2, ht, hE, hS⟩ := id J
  subst e1 e2
  unfold wpX_gaps
  rcases rs_ff v1 with ⟨F, hF, rfl⟩ | hf
  · refine rs_xf1 _ hF (br_f rs_n10 ?_)
    refine rs_xgat _ F 0 hF (by omega) (nI n) t c w l g gc gs (fun gc' gs' I => ?_)
    have hm : ∀ o, o < 16 → (gc' o ≤ 0 ↔ rs_YM S F 0 o n = false) := fun o ho => by rw [(I o ho).1]; exact rs_gcnt hn hE hS F 0 o
    obtain ⟨r, hX, hY⟩ := rs_gap (nI n) t c w l g gc' gs' (nI n) h p q a ob (fun o => rs_YM S F 0 o n) hm 16 0 rfl 0 0 0 16 (-1) 0 (Or.inl ⟨rfl, rfl, rfl, rfl, rfl, rfl⟩)
    refine ⟨16 + 1, hX _ ?_⟩
    unfold wpY_gaps
    refine rs_yf1 _ hF _ (br_f rs_n10 ?_)
    refine rs_ygat _ F 0 hF (by omega) hn hE hb sb ob (fun hb' sb' I' => ?_)
    exact ⟨16 + 1, hY hb' sb' (fun o ho => (I' o ho).1) _ ⟨rfl, J⟩⟩
  · refine rs_xf0 _ hf (br_t rfl ?_)
    unfold wpY_gaps
    exact rs_yf0 _ hf _ (br_t rfl ⟨rfl, J⟩)
end
