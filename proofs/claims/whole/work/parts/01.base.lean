theorem pk_us {f : Nat → Int32} {k : Nat} {x : Int32} : upd f k x k = x := if_pos rfl
theorem pk_un {f : Nat → Int32} {k j : Nat} {x : Int32} (h : j ≠ k) : upd f k x j = f j := if_neg h
theorem pk_sub {a b : Nat} (h : b ≤ a) : nI a - nI b = nI (a - b) := by
  obtain ⟨c, rfl⟩ : ∃ c, a = c + b := ⟨a - b, by omega⟩
  rw [← nI_add, Int32.add_sub_cancel, Nat.add_sub_cancel]
theorem pk_m1 (n : Nat) : nI (n + 1) + (-1) = nI n := by
  rw [← nI_1, Int32.add_assoc, show (1 : Int32) + (-1) = 0 from rfl, Int32.add_zero]
theorem pk_mul (a b : Nat) : nI a * nI b = nI (a * b) := (Int32.ofNat_mul a b).symm
theorem pk_div {a d : Nat} (ha : a < 2 ^ 31) (h0 : 0 < d) (hd : d < 2 ^ 31) : nI a / nI d = nI (a / d) := by
  apply Int32.toInt_inj.mp
  rw [lg_idiv_nonneg (by rw [nI_toInt ha]; omega) (by rw [nI_toInt hd]; omega), nI_toInt ha, nI_toInt hd, nI_toInt (Nat.lt_of_le_of_lt (Nat.div_le_self a d) ha)]
  first | rfl | exact (Int.natCast_ediv _ _).symm
theorem pk_rem {a d : Nat} (ha : a < 2 ^ 31) (h0 : 0 < d) (hd : d < 2 ^ 31) : nI a - nI a / nI d * nI d = nI (a % d) := by
  rw [pk_div ha h0 hd, pk_mul, pk_sub (Nat.div_mul_le_self a d)]
  exact congrArg nI (by have := Nat.div_add_mod' a d; omega)
theorem pk_ix (x : Int32) {n : Nat} (hn : n < 2 ^ 31) : x < 0 ∨ nI n ≤ x ∨ ∃ j : Nat, j < n ∧ x = nI j := by
  by_cases h : x < 0
  · exact Or.inl h
  · obtain ⟨j, hj, rfl⟩ := nI_of h
    by_cases h2 : j < n
    · exact Or.inr (Or.inr ⟨j, h2, rfl⟩)
    · exact Or.inr (Or.inl (nI_le (by omega) hj))
theorem pk_le {x y : Int32} {A B : Prop} (a b : Nat) (f : a ≤ b → A) (g : b < a → B) (hx : x = nI a := by rfl) (hy : y = nI b := by rfl) (ha : a < 2 ^ 31 := by omega) (hb : b < 2 ^ 31 := by omega) : (x ≤ y → A) ∧ (¬ x ≤ y → B) := by
  subst hx hy
  rw [nI_leI ha hb]
  exact ⟨f, fun z => g (by omega)⟩
theorem pk_lt {x y : Int32} {A B : Prop} (a b : Nat) (f : a < b → A) (g : b ≤ a → B) (hx : x = nI a := by rfl) (hy : y = nI b := by rfl) (ha : a < 2 ^ 31 := by omega) (hb : b < 2 ^ 31 := by omega) : (x < y → A) ∧ (¬ x < y → B) := by
  subst hx hy
  rw [nI_ltI ha hb]
  exact ⟨f, fun z => g (by omega)⟩
theorem pk_eq {x y : Int32} {A B : Prop} (a b : Nat) (f : a = b → A) (g : a ≠ b → B) (hx : x = nI a := by rfl) (hy : y = nI b := by rfl) (ha : a < 2 ^ 31 := by omega) (hb : b < 2 ^ 31 := by omega) : (x = y → A) ∧ (¬ x = y → B) := by
  subst hx hy
  rw [nI_eq ha hb]
  exact ⟨f, g⟩
theorem pk_in {x : Int32} (n N : Nat) (h : n < N) (hx : x = nI n := by rfl) (hN : N < 2 ^ 31 := by omega) : vp_in x N := by
  subst hx
  exact vp_in_nI h hN
theorem pk_cl {x : Int32} (n : Nat) (hx : x = nI n := by rfl) (h : n < 2 ^ 31 := by omega) : x.toNatClampNeg = n := by
  subst hx
  exact nI_clamp h
theorem pk_tn {n : Nat} (h : n < 2 ^ 32) : (nI n).toBitVec.toNat = n := Nat.mod_eq_of_lt h
theorem pk_and (x : Int32) {m : Int32} (k : Nat) (hm : m.toBitVec.toNat = 2 ^ k - 1) : x &&& m = nI (x.toBitVec.toNat % 2 ^ k) := by
  apply Int32.toBitVec_inj.mp
  apply BitVec.eq_of_toNat_eq
  rw [Int32.toBitVec_and, BitVec.toNat_and, hm, Nat.and_two_pow_sub_one_eq_mod]
  show _ = (BitVec.ofNat 32 _).toNat
  rw [BitVec.toNat_ofNat]
  exact (Nat.mod_eq_of_lt (Nat.lt_of_le_of_lt (Nat.mod_le _ _) x.toBitVec.isLt)).symm
theorem pk_andE (x : Int32) {m : Int32} (k : Nat) (hm : m.toBitVec.toNat = 2 ^ k - 1) : ∃ j : Nat, j < 2 ^ k ∧ x &&& m = nI j := ⟨_, Nat.mod_lt _ (Nat.two_pow_pos k), pk_and x k hm⟩
def bt (x : Int32) (i : Nat) : Bool := x.toBitVec.getLsbD i
theorem b_ext {x y : Int32} (h : ∀ i, i < 32 → bt x i = bt y i) : x = y := Int32.toBitVec_inj.mp (BitVec.eq_of_getLsbD_eq (fun i hi => h i hi))
theorem b_or (x y : Int32) (i : Nat) : bt (x ||| y) i = (bt x i || bt y i) := by unfold bt; rw [Int32.toBitVec_or, BitVec.getLsbD_or]
theorem b_and (x y : Int32) (i : Nat) : bt (x &&& y) i = (bt x i && bt y i) := by unfold bt; rw [Int32.toBitVec_and, BitVec.getLsbD_and]
theorem b_xor (x y : Int32) (i : Nat) : bt (x ^^^ y) i = (bt x i ^^ bt y i) := by unfold bt; rw [Int32.toBitVec_xor, BitVec.getLsbD_xor]
theorem b_big {x : Int32} {i : Nat} (h : 32 ≤ i) : bt x i = false := BitVec.getLsbD_of_ge _ _ h
theorem b_m1 : ∀ i, i < 32 → bt (-1) i = true := by decide +kernel
theorem b_0 (i : Nat) : bt 0 i = false := BitVec.getLsbD_zero
theorem s_l : ∀ n, n < 32 → ((nI n &&& 31).toBitVec.smod 32).toNat = n := by decide +kernel
theorem s_u : ∀ n, n < 32 → (((nI n).toUInt32 &&& Int32.toUInt32 31).toBitVec % 32).toNat = n := by decide +kernel
theorem b_shl (n : Nat) (hn : n < 32) (x : Int32) {i : Nat} (hi : i < 32) : bt (x <<< (nI n &&& 31)) i = (decide (n ≤ i) && bt x (i - n)) := by
  unfold bt
  rw [Int32.toBitVec_shiftLeft]
  show (x.toBitVec <<< ((nI n &&& 31).toBitVec.smod 32).toNat).getLsbD i = _
  rw [s_l n hn, BitVec.getLsbD_shiftLeft]
  rcases Nat.lt_or_ge i n with h | h
  · simp [h, Nat.not_le.mpr h]
  · simp [hi, h, Nat.not_lt.mpr h]
theorem b_ushr (n : Nat) (hn : n < 32) (x : Int32) (i : Nat) : bt ((x.toUInt32 >>> ((nI n).toUInt32 &&& Int32.toUInt32 31)).toInt32) i = bt x (n + i) := by
  show (x.toUInt32 >>> ((nI n).toUInt32 &&& Int32.toUInt32 31)).toBitVec.getLsbD i = x.toUInt32.toBitVec.getLsbD (n + i)
  rw [UInt32.toBitVec_shiftRight]
  show (x.toUInt32.toBitVec >>> (((nI n).toUInt32 &&& Int32.toUInt32 31).toBitVec % 32).toNat).getLsbD i = _
  rw [s_u n hn, BitVec.getLsbD_ushiftRight]
theorem b_sshr (n : Nat) (hn : n < 32) (x : Int32) {i : Nat} (hi : i < 32) : bt (x >>> (nI n &&& 31)) i = if n + i < 32 then bt x (n + i) else bt x 31 := by
  unfold bt
  rw [Int32.toBitVec_shiftRight]
  show (x.toBitVec.sshiftRight ((nI n &&& 31).toBitVec.smod 32).toNat).getLsbD i = _
  rw [s_l n hn, BitVec.getLsbD_sshiftRight, BitVec.msb_eq_getLsbD_last]
  simp [hi]
theorem mm_8 : (8 : Int32) = nI 8 := by decide +kernel
theorem mm_4 : (4 : Int32) = nI 4 := by decide +kernel
theorem mm_9 : (9 : Int32) = nI 9 := by decide +kernel
theorem mm_16 : (16 : Int32) = nI 16 := by decide +kernel
theorem mm_64 : (64 : Int32) = nI 64 := by decide +kernel
theorem mm_128 : (128 : Int32) = nI 128 := by decide +kernel
theorem mm_144 : (144 : Int32) = nI 144 := by decide +kernel
theorem mm_i8 (a b : Nat) : nI a * 8 + nI b = nI (a * 8 + b) := by rw [mm_8, pk_mul, nI_add]
theorem mm_8i (a b : Nat) : 8 * nI a + nI b = nI (a * 8 + b) := by rw [mm_8, pk_mul, nI_add, Nat.mul_comm]
theorem mm_i16 (a b : Nat) : nI a * 16 + nI b = nI (a * 16 + b) := by rw [mm_16, pk_mul, nI_add]
theorem mm_i9 (a b : Nat) : nI a * 9 + nI b = nI (a * 9 + b) := by rw [mm_9, pk_mul, nI_add]
theorem mm_4i (b : Nat) : 4 * nI b = nI (4 * b) := by rw [mm_4, pk_mul]
theorem mm_le8 {i : Nat} (h : 8 ≤ i) (hi : i < 2 ^ 31) : (8 : Int32) ≤ nI i := by rw [mm_8]; exact nI_le h hi
theorem mm_nm1 {n : Nat} (h : n < 2 ^ 31) : ¬ nI n = (-1 : Int32) := by
  intro e
  have h1 : (nI n).toInt = (-1 : Int32).toInt := by rw [e]
  rw [nI_toInt h, show (-1 : Int32).toInt = -1 from by decide] at h1
  omega
theorem mm_b1 : ∀ i, i < 32 → bt 1 i = decide (i = 0) := by decide +kernel
theorem mm_hb (x : Int32) {p : Nat} (hp : p < 32) : ((x >>> (nI p &&& 31)) &&& 1) = 1 ↔ bt x p = true := by
  have e : ∀ i, i < 32 → bt ((x >>> (nI p &&& 31)) &&& 1) i = (decide (i = 0) && bt x p) := by
    intro i hi
    rw [b_and, b_sshr p hp x hi, mm_b1 i hi]
    by_cases h : i = 0
    · subst h; simp [hp]
    · simp [h]
  constructor
  · intro h
    have h2 := e 0 (by omega)
    rw [h, mm_b1 0 (by omega)] at h2
    simpa using h2.symm
  · intro h
    apply b_ext
    intro i hi
    rw [e i hi, h, mm_b1 i hi]; simp
theorem mm_hb0 (x : Int32) {p : Nat} (hp : p < 32) : ((x >>> (nI p &&& 31)) &&& 1) = 0 ↔ bt x p = false := by
  have e : ∀ i, i < 32 → bt ((x >>> (nI p &&& 31)) &&& 1) i = (decide (i = 0) && bt x p) := by
    intro i hi
    rw [b_and, b_sshr p hp x hi, mm_b1 i hi]
    by_cases h : i = 0
    · subst h; simp [hp]
    · simp [h]
  constructor
  · intro h
    have h2 := e 0 (by omega)
    rw [h, b_0] at h2
    simpa using h2.symm
  · intro h
    apply b_ext
    intro i hi
    rw [e i hi, h, b_0]; simp
theorem mm_one {p : Nat} (hp : p < 32) (i : Nat) : bt ((1 : Int32) <<< (nI p &&& 31)) i = true ↔ i = p := by
  rcases Nat.lt_or_ge i 32 with hi | hi
  · rw [b_shl p hp 1 hi, mm_b1 (i - p) (by omega)]
    simp
    omega
  · rw [b_big hi]
    constructor
    · intro h; cases h
    · intro h; omega
theorem mm_256 : (256 : Int32) = (1 : Int32) <<< (nI 8 &&& 31) := by decide +kernel
theorem mm_ob {C : Nat → Int32} {k p j q : Nat} (hp : p < 32) : bt (upd C k (C k ||| ((1 : Int32) <<< (nI p &&& 31))) j) q = true ↔ (bt (C j) q = true ∨ (j = k ∧ q = p)) := by
  by_cases h : j = k
  · subst h
    rw [pk_us, b_or, Bool.or_eq_true, mm_one hp]
    simp
  · rw [pk_un h]
    simp [h]
def mm_al (l : Int32) : Int32 := if l = 0 then 1 else ((1 : Int32) <<< (l &&& 31)) - 1
theorem mm_alb : ∀ k, k < 9 → ∀ p, p < 32 → bt (mm_al (nI k)) p = decide (p < k ∨ (k = 0 ∧ p = 0)) := by decide +kernel
theorem mm_al8 {k p : Nat} (hk : k < 9) (h : bt (mm_al (nI k)) p = true) : p < 8 := by
  rcases Nat.lt_or_ge p 32 with hp | hp
  · rw [mm_alb k hk p hp] at h
    have := of_decide_eq_true h
    omega
  · rw [b_big hp] at h; cases h
theorem mm_al0 {k : Nat} (hk : k < 9) : bt (mm_al (nI k)) 0 = true := by
  rw [mm_alb k hk 0 (by omega)]
  exact decide_eq_true (by omega)
theorem mm_bl : vp_nar .boolean 1 = 1 := by decide +kernel
theorem mm_bl0 : vp_nar .boolean 0 = 0 := by decide +kernel
theorem mm_z {x : Int32} (h : ∀ p, bt x p = false) : x = 0 := b_ext (fun i _ => by rw [h i, b_0])
