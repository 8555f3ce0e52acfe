theorem pk_us {f : Nat → Int32} {k : Nat} {x : Int32} : upd f k x k = x := if_pos rfl
theorem pk_un {f : Nat → Int32} {k j : Nat} {x : Int32} (h : j ≠ k) : upd f k x j = f j := if_neg h
theorem pk_sub {a b : Nat} (h : b ≤ a) : nI a - nI b = nI (a - b) := by
  obtain ⟨c, rfl⟩ : ∃ c, a = c + b := ⟨a - b, by omega⟩
  rw [← nI_add, Int32.add_sub_cancel, Nat.add_sub_cancel]
theorem pk_m1 (n : Nat) : nI (n + 1) + (-1) = nI n := by
  rw [← nI_1, Int32.add_assoc, show (1 : Int32) + (-1) = 0 from rfl, Int32.add_zero]
theorem pk_mul (a b : Nat) : nI a * nI b = nI (a * b) := (Int32.ofNat_mul a b).symm
theorem pk_div {a d : Nat} (ha : a < 2 ^ 31) (h0 : 0 < d) (hd : d < 2 ^ 31) : nI a / nI d = nI (a / d) := by
  apply Int32.toInt_inj.mp
  rw [lg_idiv_nonneg (by rw [nI_toInt ha]; omega) (by rw [nI_toInt hd]; omega), nI_toInt ha, nI_toInt hd, nI_toInt (Nat.lt_of_le_of_lt (Nat.div_le_self a d) ha)]
  first | rfl | exact (Int.natCast_ediv _ _).symm
theorem pk_rem {a d : Nat} (ha : a < 2 ^ 31) (h0 : 0 < d) (hd : d < 2 ^ 31) : nI a - nI a / nI d * nI d = nI (a % d) := by
  rw [pk_div ha h0 hd, pk_mul, pk_sub (Nat.div_mul_le_self a d)]
  exact congrArg nI (by have := Nat.div_add_mod' a d; omega)
theorem pk_sub_toInt {a b : Nat} (ha : a < 2 ^ 30) (hb : b < 2 ^ 30) : (nI a - nI b).toInt = (a : Int) - b := by
  rw [Int32.toInt_sub, nI_toInt (by omega), nI_toInt (by omega)]
  exact Int.bmod_eq_of_le (by omega) (by omega)
theorem pk_le {x y : Int32} {A B : Prop} (a b : Nat) (f : a ≤ b → A) (g : b < a → B) (hx : x = nI a := by rfl) (hy : y = nI b := by rfl) (ha : a < 2 ^ 31 := by omega) (hb : b < 2 ^ 31 := by omega) : (x ≤ y → A) ∧ (¬ x ≤ y → B) := by
  subst hx hy
  rw [nI_leI ha hb]
  exact ⟨f, fun z => g (by omega)⟩
theorem pk_lt {x y : Int32} {A B : Prop} (a b : Nat) (f : a < b → A) (g : b ≤ a → B) (hx : x = nI a := by rfl) (hy : y = nI b := by rfl) (ha : a < 2 ^ 31 := by omega) (hb : b < 2 ^ 31 := by omega) : (x < y → A) ∧ (¬ x < y → B) := by
  subst hx hy
  rw [nI_ltI ha hb]
  exact ⟨f, fun z => g (by omega)⟩
theorem pk_eq {x y : Int32} {A B : Prop} (a b : Nat) (f : a = b → A) (g : a ≠ b → B) (hx : x = nI a := by rfl) (hy : y = nI b := by rfl) (ha : a < 2 ^ 31 := by omega) (hb : b < 2 ^ 31 := by omega) : (x = y → A) ∧ (¬ x = y → B) := by
  subst hx hy
  rw [nI_eq ha hb]
  exact ⟨f, g⟩
theorem pk_in {x : Int32} (n N : Nat) (h : n < N) (hx : x = nI n := by rfl) (hN : N < 2 ^ 31 := by omega) : vp_in x N := by
  subst hx
  exact vp_in_nI h hN
theorem pk_cl {x : Int32} (n : Nat) (hx : x = nI n := by rfl) (h : n < 2 ^ 31 := by omega) : x.toNatClampNeg = n := by
  subst hx
  exact nI_clamp h
theorem pk_tn {n : Nat} (h : n < 2 ^ 32) : (nI n).toBitVec.toNat = n := Nat.mod_eq_of_lt h
theorem pk_and (x : Int32) {m : Int32} (k : Nat) (hm : m.toBitVec.toNat = 2 ^ k - 1) : x &&& m = nI (x.toBitVec.toNat % 2 ^ k) := by
  apply Int32.toBitVec_inj.mp
  apply BitVec.eq_of_toNat_eq
  rw [Int32.toBitVec_and, BitVec.toNat_and, hm, Nat.and_two_pow_sub_one_eq_mod]
  show _ = (BitVec.ofNat 32 _).toNat
  rw [BitVec.toNat_ofNat]
  exact (Nat.mod_eq_of_lt (Nat.lt_of_le_of_lt (Nat.mod_le _ _) x.toBitVec.isLt)).symm
theorem pk_andN {n : Nat} (h : n < 2 ^ 32) {m : Int32} (k : Nat) (hm : m.toBitVec.toNat = 2 ^ k - 1) : nI n &&& m = nI (n % 2 ^ k) := by
  rw [pk_and _ k hm, pk_tn h]
theorem pk_andE (x : Int32) {m : Int32} (k : Nat) (hm : m.toBitVec.toNat = 2 ^ k - 1) : ∃ j : Nat, j < 2 ^ k ∧ x &&& m = nI j := ⟨_, Nat.mod_lt _ (Nat.two_pow_pos k), pk_and x k hm⟩
def bt (x : Int32) (i : Nat) : Bool := x.toBitVec.getLsbD i
theorem b_ext {x y : Int32} (h : ∀ i, i < 32 → bt x i = bt y i) : x = y := Int32.toBitVec_inj.mp (BitVec.eq_of_getLsbD_eq (fun i hi => h i hi))
theorem b_or (x y : Int32) (i : Nat) : bt (x ||| y) i = (bt x i || bt y i) := by unfold bt; rw [Int32.toBitVec_or, BitVec.getLsbD_or]
theorem b_and (x y : Int32) (i : Nat) : bt (x &&& y) i = (bt x i && bt y i) := by unfold bt; rw [Int32.toBitVec_and, BitVec.getLsbD_and]
theorem b_xor (x y : Int32) (i : Nat) : bt (x ^^^ y) i = (bt x i ^^ bt y i) := by unfold bt; rw [Int32.toBitVec_xor, BitVec.getLsbD_xor]
theorem b_big {x : Int32} {i : Nat} (h : 32 ≤ i) : bt x i = false := BitVec.getLsbD_of_ge _ _ h
theorem b_m1 : ∀ i, i < 32 → bt (-1) i = true := by decide +kernel
theorem b_0 (i : Nat) : bt 0 i = false := BitVec.getLsbD_zero
theorem s_l : ∀ n, n < 32 → ((nI n &&& 31).toBitVec.smod 32).toNat = n := by decide +kernel
theorem b_shl (n : Nat) (hn : n < 32) (x : Int32) {i : Nat} (hi : i < 32) : bt (x <<< (nI n &&& 31)) i = (decide (n ≤ i) && bt x (i - n)) := by
  unfold bt
  rw [Int32.toBitVec_shiftLeft]
  show (x.toBitVec <<< ((nI n &&& 31).toBitVec.smod 32).toNat).getLsbD i = _
  rw [s_l n hn, BitVec.getLsbD_shiftLeft]
  rcases Nat.lt_or_ge i n with h | h
  · simp [h, Nat.not_le.mpr h]
  · simp [hi, h, Nat.not_lt.mpr h]
theorem b_sshr (n : Nat) (hn : n < 32) (x : Int32) {i : Nat} (hi : i < 32) : bt (x >>> (nI n &&& 31)) i = if n + i < 32 then bt x (n + i) else bt x 31 := by
  unfold bt
  rw [Int32.toBitVec_shiftRight]
  show (x.toBitVec.sshiftRight ((nI n &&& 31).toBitVec.smod 32).toNat).getLsbD i = _
  rw [s_l n hn, BitVec.getLsbD_sshiftRight, BitVec.msb_eq_getLsbD_last]
  simp [hi]
/-! whole numbers as Int32 -/
def ps_i (z : Int) : Int32 := Int32.ofInt z
theorem ps_i_t {z : Int} (h1 : -2147483648 ≤ z) (h2 : z < 2147483648) : (ps_i z).toInt = z := Int32.toInt_ofInt_of_le h1 h2
theorem ps_i_le {a b : Int} (a1 : -2147483648 ≤ a) (a2 : a < 2147483648) (b1 : -2147483648 ≤ b) (b2 : b < 2147483648) : ps_i a ≤ ps_i b ↔ a ≤ b := by
  rw [Int32.le_iff_toInt_le, ps_i_t a1 a2, ps_i_t b1 b2]
theorem ps_i_lt {a b : Int} (a1 : -2147483648 ≤ a) (a2 : a < 2147483648) (b1 : -2147483648 ≤ b) (b2 : b < 2147483648) : ps_i a < ps_i b ↔ a < b := by
  rw [Int32.lt_iff_toInt_lt, ps_i_t a1 a2, ps_i_t b1 b2]
theorem ps_i_eq {a b : Int} (a1 : -2147483648 ≤ a) (a2 : a < 2147483648) (b1 : -2147483648 ≤ b) (b2 : b < 2147483648) : ps_i a = ps_i b ↔ a = b := by
  rw [← Int32.toInt_inj, ps_i_t a1 a2, ps_i_t b1 b2]
theorem ps_i_n {n : Nat} (h : n < 2147483648) : nI n = ps_i (n : Int) := by
  apply Int32.toInt_inj.mp
  rw [nI_toInt (by omega), ps_i_t (by omega) (by omega)]
theorem ps_i_sub {a b : Nat} (ha : a < 1073741824) (hb : b < 1073741824) : nI a - nI b = ps_i ((a : Int) - b) := by
  apply Int32.toInt_inj.mp
  rw [pk_sub_toInt (by omega) (by omega), ps_i_t (by omega) (by omega)]
theorem ps_cle {x y : Int32} {A B : Prop} (a b : Int) (f : a ≤ b → A) (g : b < a → B) (hx : x = ps_i a) (hy : y = ps_i b) (a1 : -2000000000 ≤ a) (a2 : a < 2000000000) (b1 : -2000000000 ≤ b) (b2 : b < 2000000000) : (x ≤ y → A) ∧ (¬ x ≤ y → B) := by
  subst hx hy
  rw [ps_i_le (by omega) (by omega) (by omega) (by omega)]
  exact ⟨f, fun z => g (by omega)⟩
theorem ps_clt {x y : Int32} {A B : Prop} (a b : Int) (f : a < b → A) (g : b ≤ a → B) (hx : x = ps_i a) (hy : y = ps_i b) (a1 : -2000000000 ≤ a) (a2 : a < 2000000000) (b1 : -2000000000 ≤ b) (b2 : b < 2000000000) : (x < y → A) ∧ (¬ x < y → B) := by
  subst hx hy
  rw [ps_i_lt (by omega) (by omega) (by omega) (by omega)]
  exact ⟨f, fun z => g (by omega)⟩
theorem ps_ceq {x y : Int32} {A B : Prop} (a b : Int) (f : a = b → A) (g : a ≠ b → B) (hx : x = ps_i a) (hy : y = ps_i b) (a1 : -2000000000 ≤ a) (a2 : a < 2000000000) (b1 : -2000000000 ≤ b) (b2 : b < 2000000000) : (x = y → A) ∧ (¬ x = y → B) := by
  subst hx hy
  rw [ps_i_eq (by omega) (by omega) (by omega) (by omega)]
  exact ⟨f, g⟩
theorem ps_ix (m k t : Nat) : nI m * nI k + nI t = nI (m * k + t) := by rw [pk_mul, nI_add]
theorem ps_ix6 (m t : Nat) : nI m * 6 + nI t = nI (m * 6 + t) := ps_ix m 6 t
theorem ps_ix75 (m t : Nat) : nI m * 75 + nI t = nI (m * 75 + t) := ps_ix m 75 t
theorem ps_ix2 (m t : Nat) : nI m * 2 + nI t = nI (m * 2 + t) := ps_ix m 2 t
theorem ps_ix21 (m : Nat) : nI m * 2 + 1 = nI (m * 2 + 1) := ps_ix m 2 1
theorem ps_ix20 (m : Nat) : nI m * 2 = nI (m * 2) := pk_mul m 2
/-! one bit of an Int32 -/
theorem ps_b1 : ∀ i, i < 32 → bt 1 i = decide (i = 0) := by decide +kernel
theorem ps_and1 (x : Int32) : x &&& 1 = if bt x 0 = true then 1 else 0 := by
  apply b_ext
  intro i hi
  rw [b_and, ps_b1 i hi]
  by_cases e : i = 0
  · subst e
    by_cases z : bt x 0 = true
    · rw [z, if_pos rfl]; decide +kernel
    · rw [if_neg z, Bool.not_eq_true] at *
      rw [z]; decide +kernel
  · rw [decide_eq_false e, Bool.and_false]
    by_cases z : bt x 0 = true
    · rw [if_pos z, ps_b1 i hi, decide_eq_false e]
    · rw [if_neg z, b_0]
theorem ps_bit (x : Int32) {t : Nat} (ht : t < 32) : (x >>> (nI t &&& 31)) &&& 1 = if bt x t = true then 1 else 0 := by
  rw [ps_and1, b_sshr t ht x (by omega), if_pos (show t + 0 < 32 from by omega), Nat.add_zero]
theorem ps_bit1 {x : Int32} {t : Nat} (ht : t < 32) {A B : Prop} (f : bt x t = true → A) (g : bt x t = false → B) : (((x >>> (nI t &&& 31)) &&& 1) = 1 → A) ∧ (¬ ((x >>> (nI t &&& 31)) &&& 1) = 1 → B) := by
  rw [ps_bit x ht]
  by_cases z : bt x t = true
  · rw [if_pos z]
    exact ⟨fun _ => f z, fun q => absurd rfl q⟩
  · rw [if_neg z]
    exact ⟨fun q => absurd q (by decide), fun _ => g (Bool.not_eq_true _ ▸ z)⟩
theorem ps_bit0 {x : Int32} {t : Nat} (ht : t < 32) {A B : Prop} (f : bt x t = false → A) (g : bt x t = true → B) : (((x >>> (nI t &&& 31)) &&& 1) = 0 → A) ∧ (¬ ((x >>> (nI t &&& 31)) &&& 1) = 0 → B) := by
  rw [ps_bit x ht]
  by_cases z : bt x t = true
  · rw [if_pos z]
    exact ⟨fun q => absurd q (by decide), fun _ => g z⟩
  · rw [if_neg z]
    exact ⟨fun _ => f (Bool.not_eq_true _ ▸ z), fun q => absurd rfl q⟩
theorem ps_sh1 {t i : Nat} (ht : t < 32) (hi : i < 32) : bt ((1 : Int32) <<< (nI t &&& 31)) i = decide (i = t) := by
  rw [b_shl t ht 1 hi]
  by_cases a : t ≤ i
  · rw [decide_eq_true a, Bool.true_and, ps_b1 (i - t) (by omega)]
    by_cases e : i = t
    · rw [decide_eq_true e, decide_eq_true (by omega)]
    · rw [decide_eq_false e, decide_eq_false (by omega)]
  · rw [decide_eq_false a, Bool.false_and, decide_eq_false (by omega)]
theorem ps_set {x : Int32} {t i : Nat} (ht : t < 32) (hi : i < 32) : bt (x ||| ((1 : Int32) <<< (nI t &&& 31))) i = (bt x i || decide (i = t)) := by
  rw [b_or, ps_sh1 ht hi]
theorem ps_clr {x : Int32} {t i : Nat} (ht : t < 32) (hi : i < 32) : bt (x &&& (((1 : Int32) <<< (nI t &&& 31)) ^^^ (-1))) i = (bt x i && !decide (i = t)) := by
  rw [b_and, b_xor, ps_sh1 ht hi, b_m1 i hi, Bool.xor_true]
theorem ps_sub0 {x p : Int32} : (x &&& (p ^^^ (-1))) = 0 ↔ ∀ i, i < 32 → bt x i = true → bt p i = true := by
  constructor
  · intro h i hi hx
    have e := congrArg (fun z => bt z i) h
    rw [b_and, b_xor, b_m1 i hi, b_0, hx, Bool.true_and, Bool.xor_true] at e
    revert e
    cases bt p i <;> decide
  · intro h
    apply b_ext
    intro i hi
    rw [b_and, b_xor, b_m1 i hi, b_0, Bool.xor_true]
    have := h i hi
    revert this
    cases bt x i <;> cases bt p i <;> decide
