section
theorem pk_us {f : Nat → Int32} {k : Nat} {x : Int32} : upd f k x k = x := if_pos rfl
theorem pk_un {f : Nat → Int32} {k j : Nat} {x : Int32} (h : j ≠ k) : upd f k x j = f j := if_neg h
theorem pk_sub {a b : Nat} (h : b ≤ a) : nI a - nI b = nI (a - b) := by
  obtain ⟨c, rfl⟩ : ∃ c, a = c + b := ⟨a - b, by omega⟩
  rw [← nI_add, Int32.add_sub_cancel, Nat.add_sub_cancel]
theorem pk_m1 (n : Nat) : nI (n + 1) + (-1) = nI n := by
  rw [← nI_1, Int32.add_assoc, show (1 : Int32) + (-1) = 0 from rfl, Int32.add_zero]
theorem pk_mul (a b : Nat) : nI a * nI b = nI (a * b) := (Int32.ofNat_mul a b).symm
theorem pk_div {a d : Nat} (ha : a < 2 ^ 31) (h0 : 0 < d) (hd : d < 2 ^ 31) : nI a / nI d = nI (a / d) := by
  apply Int32.toInt_inj.mp
  rw [lg_idiv_nonneg (by rw [nI_toInt ha]; omega) (by rw [nI_toInt hd]; omega), nI_toInt ha, nI_toInt hd, nI_toInt (Nat.lt_of_le_of_lt (Nat.div_le_self a d) ha)]
  first | rfl | exact (Int.natCast_ediv _ _).symm
theorem pk_rem {a d : Nat} (ha : a < 2 ^ 31) (h0 : 0 < d) (hd : d < 2 ^ 31) : nI a - nI a / nI d * nI d = nI (a % d) := by
  rw [pk_div ha h0 hd, pk_mul, pk_sub (Nat.div_mul_le_self a d)]
  exact congrArg nI (by have := Nat.div_add_mod' a d; omega)
theorem pk_ix (x : Int32) {n : Nat} (hn : n < 2 ^ 31) : x < 0 ∨ nI n ≤ x ∨ ∃ j : Nat, j < n ∧ x = nI j := by
  by_cases h : x < 0
  · exact Or.inl h
  · obtain ⟨j, hj, rfl⟩ := nI_of h
    by_cases h2 : j < n
    · exact Or.inr (Or.inr ⟨j, h2, rfl⟩)
    · exact Or.inr (Or.inl (nI_le (by omega) hj))
theorem pk_le {x y : Int32} {A B : Prop} (a b : Nat) (f : a ≤ b → A) (g : b < a → B) (hx : x = nI a := by rfl) (hy : y = nI b := by rfl) (ha : a < 2 ^ 31 := by omega) (hb : b < 2 ^ 31 := by omega) : (x ≤ y → A) ∧ (¬ x ≤ y → B) := by
  subst hx hy
  rw [nI_leI ha hb]
  exact ⟨f, fun z => g (by omega)⟩
theorem pk_lt {x y : Int32} {A B : Prop} (a b : Nat) (f : a < b → A) (g : b ≤ a → B) (hx : x = nI a := by rfl) (hy : y = nI b := by rfl) (ha : a < 2 ^ 31 := by omega) (hb : b < 2 ^ 31 := by omega) : (x < y → A) ∧ (¬ x < y → B) := by
  subst hx hy
  rw [nI_ltI ha hb]
  exact ⟨f, fun z => g (by omega)⟩
theorem pk_eq {x y : Int32} {A B : Prop} (a b : Nat) (f : a = b → A) (g : a ≠ b → B) (hx : x = nI a := by rfl) (hy : y = nI b := by rfl) (ha : a < 2 ^ 31 := by omega) (hb : b < 2 ^ 31 := by omega) : (x = y → A) ∧ (¬ x = y → B) := by
  subst hx hy
  rw [nI_eq ha hb]
  exact ⟨f, g⟩
theorem pk_in {x : Int32} (n N : Nat) (h : n < N) (hx : x = nI n := by rfl) (hN : N < 2 ^ 31 := by omega) : vp_in x N := by
  subst hx
  exact vp_in_nI h hN
theorem pk_cl {x : Int32} (n : Nat) (hx : x = nI n := by rfl) (h : n < 2 ^ 31 := by omega) : x.toNatClampNeg = n := by
  subst hx
  exact nI_clamp h
theorem pk_tn {n : Nat} (h : n < 2 ^ 32) : (nI n).toBitVec.toNat = n := Nat.mod_eq_of_lt h
theorem pk_and (x : Int32) {m : Int32} (k : Nat) (hm : m.toBitVec.toNat = 2 ^ k - 1) : x &&& m = nI (x.toBitVec.toNat % 2 ^ k) := by
  apply Int32.toBitVec_inj.mp
  apply BitVec.eq_of_toNat_eq
  rw [Int32.toBitVec_and, BitVec.toNat_and, hm, Nat.and_two_pow_sub_one_eq_mod]
  show _ = (BitVec.ofNat 32 _).toNat
  rw [BitVec.toNat_ofNat]
  exact (Nat.mod_eq_of_lt (Nat.lt_of_le_of_lt (Nat.mod_le _ _) x.toBitVec.isLt)).symm
theorem pk_andE (x : Int32) {m : Int32} (k : Nat) (hm : m.toBitVec.toNat = 2 ^ k - 1) : ∃ j : Nat, j < 2 ^ k ∧ x &&& m = nI j := ⟨_, Nat.mod_lt _ (Nat.two_pow_pos k), pk_and x k hm⟩
def bt (x : Int32) (i : Nat) : Bool := x.toBitVec.getLsbD i
theorem b_ext {x y : Int32} (h : ∀ i, i < 32 → bt x i = bt y i) : x = y := Int32.toBitVec_inj.mp (BitVec.eq_of_getLsbD_eq (fun i hi => h i hi))
theorem b_or (x y : Int32) (i : Nat) : bt (x ||| y) i = (bt x i || bt y i) := by unfold bt; rw [Int32.toBitVec_or, BitVec.getLsbD_or]
theorem b_and (x y : Int32) (i : Nat) : bt (x &&& y) i = (bt x i && bt y i) := by unfold bt; rw [Int32.toBitVec_and, BitVec.getLsbD_and]
theorem b_xor (x y : Int32) (i : Nat) : bt (x ^^^ y) i = (bt x i ^^ bt y i) := by unfold bt; rw [Int32.toBitVec_xor, BitVec.getLsbD_xor]
theorem b_big {x : Int32} {i : Nat} (h : 32 ≤ i) : bt x i = false := BitVec.getLsbD_of_ge _ _ h
theorem b_m1 : ∀ i, i < 32 → bt (-1) i = true := by decide +kernel
theorem b_0 (i : Nat) : bt 0 i = false := BitVec.getLsbD_zero
theorem s_l : ∀ n, n < 32 → ((nI n &&& 31).toBitVec.smod 32).toNat = n := by decide +kernel
theorem s_u : ∀ n, n < 32 → (((nI n).toUInt32 &&& Int32.toUInt32 31).toBitVec % 32).toNat = n := by decide +kernel
theorem b_shl (n : Nat) (hn : n < 32) (x : Int32) {i : Nat} (hi : i < 32) : bt (x <<< (nI n &&& 31)) i = (decide (n ≤ i) && bt x (i - n)) := by
  unfold bt
  rw [Int32.toBitVec_shiftLeft]
  show (x.toBitVec <<< ((nI n &&& 31).toBitVec.smod 32).toNat).getLsbD i = _
  rw [s_l n hn, BitVec.getLsbD_shiftLeft]
  rcases Nat.lt_or_ge i n with h | h
  · simp [h, Nat.not_le.mpr h]
  · simp [hi, h, Nat.not_lt.mpr h]
theorem b_ushr (n : Nat) (hn : n < 32) (x : Int32) (i : Nat) : bt ((x.toUInt32 >>> ((nI n).toUInt32 &&& Int32.toUInt32 31)).toInt32) i = bt x (n + i) := by
  show (x.toUInt32 >>> ((nI n).toUInt32 &&& Int32.toUInt32 31)).toBitVec.getLsbD i = x.toUInt32.toBitVec.getLsbD (n + i)
  rw [UInt32.toBitVec_shiftRight]
  show (x.toUInt32.toBitVec >>> (((nI n).toUInt32 &&& Int32.toUInt32 31).toBitVec % 32).toNat).getLsbD i = _
  rw [s_u n hn, BitVec.getLsbD_ushiftRight]
theorem b_sshr (n : Nat) (hn : n < 32) (x : Int32) {i : Nat} (hi : i < 32) : bt (x >>> (nI n &&& 31)) i = if n + i < 32 then bt x (n + i) else bt x 31 := by
  unfold bt
  rw [Int32.toBitVec_shiftRight]
  show (x.toBitVec.sshiftRight ((nI n &&& 31).toBitVec.smod 32).toNat).getLsbD i = _
  rw [s_l n hn, BitVec.getLsbD_sshiftRight, BitVec.msb_eq_getLsbD_last]
  simp [hi]
theorem mm_8 : (8 : Int32) = nI 8 := by decide +kernel
theorem mm_4 : (4 : Int32) = nI 4 := by decide +kernel
theorem mm_9 : (9 : Int32) = nI 9 := by decide +kernel
theorem mm_16 : (16 : Int32) = nI 16 := by decide +kernel
theorem mm_64 : (64 : Int32) = nI 64 := by decide +kernel
theorem mm_128 : (128 : Int32) = nI 128 := by decide +kernel
theorem mm_144 : (144 : Int32) = nI 144 := by decide +kernel
theorem mm_i8 (a b : Nat) : nI a * 8 + nI b = nI (a * 8 + b) := by rw [mm_8, pk_mul, nI_add]
theorem mm_8i (a b : Nat) : 8 * nI a + nI b = nI (a * 8 + b) := by rw [mm_8, pk_mul, nI_add, Nat.mul_comm]
theorem mm_i16 (a b : Nat) : nI a * 16 + nI b = nI (a * 16 + b) := by rw [mm_16, pk_mul, nI_add]
theorem mm_i9 (a b : Nat) : nI a * 9 + nI b = nI (a * 9 + b) := by rw [mm_9, pk_mul, nI_add]
theorem mm_4i (b : Nat) : 4 * nI b = nI (4 * b) := by rw [mm_4, pk_mul]
theorem mm_le8 {i : Nat} (h : 8 ≤ i) (hi : i < 2 ^ 31) : (8 : Int32) ≤ nI i := by rw [mm_8]; exact nI_le h hi
theorem mm_nm1 {n : Nat} (h : n < 2 ^ 31) : ¬ nI n = (-1 : Int32) := by
  intro e
  have h1 : (nI n).toInt = (-1 : Int32).toInt := by rw [e]
  rw [nI_toInt h, show (-1 : Int32).toInt = -1 from by decide] at h1
  omega
theorem mm_b1 : ∀ i, i < 32 → bt 1 i = decide (i = 0) := by decide +kernel
theorem mm_hb (x : Int32) {p : Nat} (hp : p < 32) : ((x >>> (nI p &&& 31)) &&& 1) = 1 ↔ bt x p = true := by
  have e : ∀ i, i < 32 → bt ((x >>> (nI p &&& 31)) &&& 1) i = (decide (i = 0) && bt x p) := by
    intro i hi
    rw [b_and, b_sshr p hp x hi, mm_b1 i hi]
    by_cases h : i = 0
    · subst h; simp [hp]
    · simp [h]
  constructor
  · intro h
    have h2 := e 0 (by omega)
    rw [h, mm_b1 0 (by omega)] at h2
    simpa using h2.symm
  · intro h
    apply b_ext
    intro i hi
    rw [e i hi, h, mm_b1 i hi]; simp
theorem mm_hb0 (x : Int32) {p : Nat} (hp : p < 32) : ((x >>> (nI p &&& 31)) &&& 1) = 0 ↔ bt x p = false := by
  have e : ∀ i, i < 32 → bt ((x >>> (nI p &&& 31)) &&& 1) i = (decide (i = 0) && bt x p) := by
    intro i hi
    rw [b_and, b_sshr p hp x hi, mm_b1 i hi]
    by_cases h : i = 0
    · subst h; simp [hp]
    · simp [h]
  constructor
  · intro h
    have h2 := e 0 (by omega)
    rw [h, b_0] at h2
    simpa using h2.symm
  · intro h
    apply b_ext
    intro i hi
    rw [e i hi, h, b_0]; simp
theorem mm_one {p : Nat} (hp : p < 32) (i : Nat) : bt ((1 : Int32) <<< (nI p &&& 31)) i = true ↔ i = p := by
  rcases Nat.lt_or_ge i 32 with hi | hi
  · rw [b_shl p hp 1 hi, mm_b1 (i - p) (by omega)]
    simp
    omega
  · rw [b_big hi]
    constructor
    · intro h; cases h
    · intro h; omega
theorem mm_256 : (256 : Int32) = (1 : Int32) <<< (nI 8 &&& 31) := by decide +kernel
theorem mm_ob {C : Nat → Int32} {k p j q : Nat} (hp : p < 32) : bt (upd C k (C k ||| ((1 : Int32) <<< (nI p &&& 31))) j) q = true ↔ (bt (C j) q = true ∨ (j = k ∧ q = p)) := by
  by_cases h : j = k
  · subst h
    rw [pk_us, b_or, Bool.or_eq_true, mm_one hp]
    simp
  · rw [pk_un h]
    simp [h]
def mm_al (l : Int32) : Int32 := if l = 0 then 1 else ((1 : Int32) <<< (l &&& 31)) - 1
theorem mm_alb : ∀ k, k < 9 → ∀ p, p < 32 → bt (mm_al (nI k)) p = decide (p < k ∨ (k = 0 ∧ p = 0)) := by decide +kernel
theorem mm_al8 {k p : Nat} (hk : k < 9) (h : bt (mm_al (nI k)) p = true) : p < 8 := by
  rcases Nat.lt_or_ge p 32 with hp | hp
  · rw [mm_alb k hk p hp] at h
    have := of_decide_eq_true h
    omega
  · rw [b_big hp] at h; cases h
theorem mm_al0 {k : Nat} (hk : k < 9) : bt (mm_al (nI k)) 0 = true := by
  rw [mm_alb k hk 0 (by omega)]
  exact decide_eq_true (by omega)
theorem mm_bl : vp_nar .boolean 1 = 1 := by decide +kernel
theorem mm_bl0 : vp_nar .boolean 0 = 0 := by decide +kernel
theorem mm_z {x : Int32} (h : ∀ p, bt x p = false) : x = 0 := b_ext (fun i _ => by rw [h i, b_0])
end
section
def mm_wl (L : Nat → Int32) : Nat → Nat → Nat → Prop
  | 0, a, b => a = b
  | n + 1, a, b => mm_wl L n a b ∨ ∃ c, c < 8 ∧ mm_wl L n a c ∧ bt (L c) b = true
def mm_LK (L : Nat → Int32) : Prop := ∀ a, a < 8 → ∀ b, bt (L a) b = true → b < 8 ∧ b ≠ a ∧ bt (L b) a = true
def mm_cn (L : Nat → Int32) (a b : Nat) : Prop := ∃ n, mm_wl L n a b
section
variable {L : Nat → Int32}
theorem mm_wl_lt (h : mm_LK L) : ∀ (n : Nat) {a b : Nat}, a < 8 → mm_wl L n a b → b < 8 := by
  intro n
  induction n with
  | zero => intro a b ha hw; cases hw; exact ha
  | succ n ih =>
    intro a b ha hw
    rcases hw with hw | ⟨c, hc, _, hb⟩
    · exact ih ha hw
    · exact (h c hc b hb).1
theorem mm_wl_up {n k : Nat} {a b : Nat} (h : n ≤ k) (hw : mm_wl L n a b) : mm_wl L k a b := by
  induction k with
  | zero =>
    have : n = 0 := by omega
    subst this; exact hw
  | succ k ih =>
    rcases Nat.lt_or_ge n (k + 1) with h1 | h1
    · exact Or.inl (ih (by omega))
    · have : n = k + 1 := by omega
      subst this; exact hw
theorem mm_wl_rf (n a : Nat) : mm_wl L n a a := mm_wl_up (Nat.zero_le n) (show mm_wl L 0 a a from rfl)
theorem mm_wl_hd : ∀ (n : Nat) {a b c : Nat}, a < 8 → c < 8 → bt (L a) c = true → mm_wl L n c b → mm_wl L (n + 1) a b := by
  intro n
  induction n with
  | zero => intro a b c ha hc hac hw; cases hw; exact Or.inr ⟨a, ha, rfl, hac⟩
  | succ n ih =>
    intro a b c ha hc hac hw
    rcases hw with hw | ⟨e, he, hw, heb⟩
    · exact Or.inl (ih ha hc hac hw)
    · exact Or.inr ⟨e, he, ih ha hc hac hw, heb⟩
theorem mm_wl_tl (h : mm_LK L) : ∀ (n : Nat) {a b : Nat}, a < 8 → mm_wl L (n + 1) a b → a = b ∨ ∃ c, c < 8 ∧ bt (L a) c = true ∧ mm_wl L n c b := by
  intro n
  induction n with
  | zero =>
    intro a b ha hw
    rcases hw with hw | ⟨c, hc, hw, hb⟩
    · exact Or.inl hw
    · cases hw
      exact Or.inr ⟨b, (h a ha b hb).1, hb, rfl⟩
  | succ n ih =>
    intro a b ha hw
    rcases hw with hw | ⟨e, he, hw, hb⟩
    · rcases ih ha hw with h1 | ⟨c, hc, h1, h2⟩
      · exact Or.inl h1
      · exact Or.inr ⟨c, hc, h1, Or.inl h2⟩
    · rcases ih ha hw with h1 | ⟨c, hc, h1, h2⟩
      · cases h1
        exact Or.inr ⟨b, (h a ha b hb).1, hb, mm_wl_rf _ _⟩
      · exact Or.inr ⟨c, hc, h1, Or.inr ⟨e, he, h2, hb⟩⟩
theorem mm_wl_sy (h : mm_LK L) : ∀ (n : Nat) {a b : Nat}, a < 8 → mm_wl L n a b → mm_wl L n b a := by
  intro n
  induction n with
  | zero => intro a b ha hw; cases hw; exact rfl
  | succ n ih =>
    intro a b ha hw
    rcases hw with hw | ⟨c, hc, hw, hb⟩
    · exact Or.inl (ih ha hw)
    · have hl := h c hc b hb
      exact mm_wl_hd n hl.1 hc hl.2.2 (ih ha hw)
end
noncomputable def mm_ct (p : Nat → Prop) : Nat → Nat
  | 0 => 0
  | k + 1 => mm_ct p k + @ite Nat (p k) (Classical.propDecidable _) 1 0
theorem mm_ct_le (p : Nat → Prop) (k : Nat) : mm_ct p k ≤ k := by
  induction k with
  | zero => exact Nat.le_refl 0
  | succ k ih =>
    unfold mm_ct
    by_cases h : p k
    · rw [if_pos h]; omega
    · rw [if_neg h]; omega
theorem mm_ct_mo {p q : Nat → Prop} (k : Nat) (h : ∀ b, b < k → p b → q b) : mm_ct p k ≤ mm_ct q k := by
  induction k with
  | zero => exact Nat.le_refl 0
  | succ k ih =>
    unfold mm_ct
    have h1 := ih (fun b hb => h b (by omega))
    by_cases hp : p k
    · rw [if_pos hp, if_pos (h k (by omega) hp)]; omega
    · rw [if_neg hp]; omega
theorem mm_ct_st {p q : Nat → Prop} (k : Nat) (h : ∀ b, b < k → p b → q b) (b : Nat) (hb : b < k) (hq : q b) (hp : ¬ p b) : mm_ct p k < mm_ct q k := by
  induction k with
  | zero => omega
  | succ k ih =>
    unfold mm_ct
    have h1 := mm_ct_mo k (fun b hb => h b (by omega))
    by_cases hbk : b = k
    · subst hbk
      rw [if_neg hp, if_pos hq]; omega
    · have h2 := ih (fun b hb => h b (by omega)) (by omega)
      by_cases hpk : p k
      · rw [if_pos hpk, if_pos (h k (by omega) hpk)]; omega
      · rw [if_neg hpk]; omega
section
variable {L : Nat → Int32}
theorem mm_stb {n a : Nat} (h : ∀ b, mm_wl L (n + 1) a b → mm_wl L n a b) : ∀ (k b : Nat), mm_wl L (n + k) a b → mm_wl L n a b := by
  intro k
  induction k with
  | zero => intro b hw; exact hw
  | succ k ih =>
    intro b hw
    rcases hw with hw | ⟨c, hc, hw, hb⟩
    · exact ih b hw
    · exact h b (Or.inr ⟨c, hc, ih c hw, hb⟩)
theorem mm_gro {a : Nat} (ha : a < 8) : ∀ n, (∀ j, j < n → ∃ b, b < 8 ∧ mm_wl L (j + 1) a b ∧ ¬ mm_wl L j a b) → n + 1 ≤ mm_ct (mm_wl L n a) 8 := by
  intro n
  induction n with
  | zero =>
    intro _
    have := mm_ct_st (p := fun _ => False) (q := mm_wl L 0 a) 8 (fun _ _ z => z.elim) a ha rfl id
    omega
  | succ n ih =>
    intro h
    have h1 := ih (fun j hj => h j (by omega))
    obtain ⟨b, hb, h2, h3⟩ := h n (by omega)
    have := mm_ct_st (p := mm_wl L n a) (q := mm_wl L (n + 1) a) 8 (fun _ _ z => Or.inl z) b hb h2 h3
    omega
theorem mm_pig (h : mm_LK L) {n a b : Nat} (ha : a < 8) (hw : mm_wl L n a b) : mm_wl L 7 a b := by
  have h1 : ∃ j, j < 8 ∧ ∀ b, mm_wl L (j + 1) a b → mm_wl L j a b := by
    apply Classical.byContradiction
    intro hn
    have h2 : ∀ j, j < 8 → ∃ b, b < 8 ∧ mm_wl L (j + 1) a b ∧ ¬ mm_wl L j a b := by
      intro j hj
      apply Classical.byContradiction
      intro hm
      apply hn
      refine ⟨j, hj, fun b hb => ?_⟩
      apply Classical.byContradiction
      intro hc
      exact hm ⟨b, mm_wl_lt h _ ha hb, hb, hc⟩
    have h3 := mm_gro ha 8 h2
    have h4 := mm_ct_le (mm_wl L 8 a) 8
    omega
  obtain ⟨j, hj, hs⟩ := h1
  rcases Nat.lt_or_ge n j with h5 | h5
  · exact mm_wl_up (by omega) hw
  · have e : n = j + (n - j) := by omega
    rw [e] at hw
    exact mm_wl_up (by omega) (mm_stb hs _ b hw)
theorem mm_cn7 (h : mm_LK L) {a b : Nat} (ha : a < 8) : mm_cn L a b ↔ mm_wl L 7 a b := ⟨fun ⟨_, w⟩ => mm_pig h ha w, fun w => ⟨7, w⟩⟩
theorem mm_cn_rf (a : Nat) : mm_cn L a a := ⟨0, rfl⟩
theorem mm_cn_st {a b c : Nat} (hb : b < 8) (h : mm_cn L a b) (hc : bt (L b) c = true) : mm_cn L a c := by
  obtain ⟨n, w⟩ := h
  exact ⟨n + 1, Or.inr ⟨b, hb, w, hc⟩⟩
theorem mm_cn_sy (h : mm_LK L) {a b : Nat} (ha : a < 8) (w : mm_cn L a b) : mm_cn L b a := by
  obtain ⟨n, w⟩ := w
  exact ⟨n, mm_wl_sy h n ha w⟩
theorem mm_wl_add : ∀ (k : Nat) {n a b c : Nat}, mm_wl L n a b → mm_wl L k b c → mm_wl L (n + k) a c := by
  intro k
  induction k with
  | zero => intro n a b c h1 h2; cases h2; exact h1
  | succ k ih =>
    intro n a b c h1 h2
    rcases h2 with h2 | ⟨e, he, h2, h3⟩
    · exact Or.inl (ih h1 h2)
    · exact Or.inr ⟨e, he, ih h1 h2, h3⟩
theorem mm_cn_tr {a b c : Nat} (h : mm_cn L a b) (h2 : mm_cn L b c) : mm_cn L a c := by
  obtain ⟨n, w⟩ := h
  obtain ⟨k, w2⟩ := h2
  exact ⟨n + k, mm_wl_add k w w2⟩
/-- exactness of far up to j -/
def mm_E (L : Nat → Int32) (f : Nat → Nat → Nat) (j : Nat) : Prop := ∀ a b n, a < 8 → b < 8 → n ≤ j → (f a b ≤ n ↔ mm_wl L n a b)
/-- what a round without harm makes of far: g, w out of f -/
def mm_X (L : Nat → Int32) (f g : Nat → Nat → Nat) (w : Nat → Nat → Int32) : Prop := ∀ a b, a < 8 → b < 8 →
  (a = b → g a b = 0) ∧ (a ≠ b → 1 ≤ g a b ∧ g a b ≤ 8 ∧ (∀ c, c < 8 → bt (L a) c = true → g a b ≤ f c b + 1) ∧
    ((g a b = 8 ∧ w a b = -1) ∨ (g a b < 8 ∧ ∃ c, c < 8 ∧ w a b = nI c ∧ bt (L a) c = true ∧ g a b = f c b + 1)))
theorem mm_E_st (h : mm_LK L) {f g : Nat → Nat → Nat} {w : Nat → Nat → Int32} (hx : mm_X L f g w) {j : Nat} (hj : j + 1 ≤ 7) (he : mm_E L f j) : mm_E L g (j + 1) := by
  intro a b n ha hb hn
  have hab := hx a b ha hb
  by_cases e : a = b
  · subst e
    rw [hab.1 rfl]
    exact ⟨fun _ => mm_wl_rf _ _, fun _ => Nat.zero_le _⟩
  · obtain ⟨h1, h2, h3, h4⟩ := hab.2 e
    cases n with
    | zero => exact ⟨fun z => by omega, fun z => (e z).elim⟩
    | succ k =>
      constructor
      · intro z
        rcases h4 with ⟨h5, _⟩ | ⟨_, c, hc, _, hac, hg⟩
        · omega
        · exact mm_wl_hd k ha hc hac ((he c b k hc hb (by omega)).mp (by omega))
      · intro z
        rcases mm_wl_tl h k ha z with z | ⟨c, hc, hac, hw⟩
        · exact (e z).elim
        · have h6 := (he c b k hc hb (by omega)).mpr hw
          have h7 := h3 c hc hac
          omega
theorem mm_E_dn {f : Nat → Nat → Nat} {j k : Nat} (h : j ≤ k) (he : mm_E L f k) : mm_E L f j := fun a b n ha hb hn => he a b n ha hb (by omega)
theorem mm_E_t (h : mm_LK L) {f g : Nat → Nat → Nat} {w : Nat → Nat → Int32} (hx : mm_X L f g w) {t : Nat} (ht : 24 ≤ t) (he : mm_E L f (min (t - 24) 7)) : mm_E L g (min (t + 1 - 24) 7) := by
  rcases Nat.lt_or_ge t 31 with h1 | h1
  · have e1 : min (t - 24) 7 = t - 24 := by omega
    have e2 : min (t + 1 - 24) 7 = (t - 24) + 1 := by omega
    rw [e1] at he
    rw [e2]
    exact mm_E_st h hx (by omega) he
  · have e1 : min (t - 24) 7 = 7 := by omega
    have e2 : min (t + 1 - 24) 7 = 6 + 1 := by omega
    rw [e1] at he
    rw [e2]
    exact mm_E_st h hx (by omega) (mm_E_dn (by omega) he)
/-- the ways are right -/
def mm_Wy (L : Nat → Int32) (w : Nat → Nat → Int32) : Prop := ∀ a b, a < 8 → b < 8 → a ≠ b →
  (∀ n, n ≤ 6 → mm_wl L (n + 1) a b → ∃ c, c < 8 ∧ w a b = nI c ∧ bt (L a) c = true ∧ mm_wl L n c b) ∧ (¬ mm_wl L 7 a b → w a b = -1)
theorem mm_Wy_of (h : mm_LK L) {f g : Nat → Nat → Nat} {w : Nat → Nat → Int32} (hx : mm_X L f g w) (he : mm_E L f 7) : mm_Wy L w := by
  intro a b ha hb e
  obtain ⟨h1, h2, h3, h4⟩ := (hx a b ha hb).2 e
  constructor
  · intro n hn z
    rcases mm_wl_tl h n ha z with z | ⟨c, hc, hac, hw⟩
    · exact (e z).elim
    · have h6 := (he c b n hc hb (by omega)).mpr hw
      have h7 := h3 c hc hac
      rcases h4 with ⟨h5, _⟩ | ⟨_, c2, hc2, h8, hac2, hg⟩
      · omega
      · exact ⟨c2, hc2, h8, hac2, (he c2 b n hc2 hb (by omega)).mp (by omega)⟩
  · intro z
    rcases h4 with ⟨_, h5⟩ | ⟨h5, c2, hc2, _, hac2, hg⟩
    · exact h5
    · exact (z (mm_wl_hd 6 ha hc2 hac2 ((he c2 b 6 hc2 hb (by omega)).mp (by omega)))).elim
end
end
section
theorem mm_w_hb {A B : Prop} {x : Int32} {p : Nat} (hp : p < 32) (h0 : bt x p = false → A) (h1 : bt x p = true → B) : wpX_hasBit (fun r => ((r = 0 → A) ∧ (¬ r = 0 → B))) x (nI p) := by
  refine ⟨fun h => br_f (by decide) (h1 ((mm_hb x hp).mp h)), fun h => br_t rfl (h0 ?_)⟩
  cases e : bt x p with
  | false => rfl
  | true => exact (h ((mm_hb x hp).mpr e)).elim
def mm_nib (x : Int32) (b : Nat) : Int32 := ((x.toUInt32 >>> ((4 * nI b).toUInt32 &&& Int32.toUInt32 31)).toInt32) &&& 15
def mm_hr (x1 told : Int32) (nF0 nW0 nF nW : Nat → Int32) (j b : Nat) : Prop := (nF0 j ≤ mm_nib told b + 1 ∧ nF j = nF0 j ∧ nW j = nW0 j) ∨ (¬ nF0 j ≤ mm_nib told b + 1 ∧ nF j = mm_nib told b + 1 ∧ nW j = x1)
section
variable {d : Int32} {c : Nat} {L db S G N B P T R F W nF nW H C O Lf K r0 r1 r2 r3 r4 : Nat → Int32} {post : SX → Prop}
theorem mm_w_hear_l {to : Nat} {x1 told : Int32} (hto : to < 8) (nF0 nW0 : Nat → Int32)
  (hp : ∀ nF nW : Nat → Int32, (∀ j, ¬ (to * 8 ≤ j ∧ j < to * 8 + 8) → nF j = nF0 j ∧ nW j = nW0 j) → (∀ b, b < 8 → mm_hr x1 told nF0 nW0 nF nW (to * 8 + b) b) → post (d, nI c, L, db, S, G, N, B, P, T, R, F, W, nF, nW, H, C, O, Lf, K, r0, r1, r2, r3, r4)) :
  ∀ (k i : Nat) (nF nW : Nat → Int32), i + k = 8 → (∀ j, ¬ (to * 8 ≤ j ∧ j < to * 8 + i) → nF j = nF0 j ∧ nW j = nW0 j) → (∀ b, b < i → mm_hr x1 told nF0 nW0 nF nW (to * 8 + b) b) → wX_hearWays_3 post x1 (nI to) told d (nI c) (k + 1) (nI i) L db S G N B P T R F W nF nW H C O Lf K r0 r1 r2 r3 r4 := by
  intro k
  induction k with
  | zero =>
    intro i nF nW hi h1 h2
    have : i = 8 := by omega
    subst this
    exact br_t (by decide) (hp nF nW h1 h2)
  | succ k ih =>
    intro i nF nW hi h1 h2
    refine br_f (nI_ge (b := 8) (by omega) (by decide)) (nm_e ⟨pk_in (to * 8 + i) 64 (by omega) (mm_i8 to i), ?_⟩)
    rw [pk_cl (to * 8 + i) (mm_i8 to i)]
    have hu := h1 (to * 8 + i) (by omega)
    refine br_c (fun hle => nm_r (nI_1 i) (ih (i + 1) nF nW (by omega) ?_ ?_)) (fun hle => ⟨pk_in (to * 8 + i) 64 (by omega) (mm_i8 to i), nm_e ⟨pk_in (to * 8 + i) 64 (by omega) (mm_i8 to i), nm_e (nm_r (nI_1 i) (ih (i + 1) _ _ (by omega) ?_ ?_))⟩⟩)
    · intro j hj
      exact h1 j (by omega)
    · intro b hb
      by_cases e : b = i
      · subst e
        rw [hu.1] at hle
        exact Or.inl ⟨hle, hu.1, hu.2⟩
      · exact h2 b (by omega)
    · intro j hj
      have hne : j ≠ to * 8 + i := by omega
      rw [pk_un hne, pk_un hne]
      exact h1 j (by omega)
    · intro b hb
      by_cases e : b = i
      · subst e
        rw [hu.1] at hle
        exact Or.inr ⟨hle, pk_us, pk_us⟩
      · have hne : to * 8 + b ≠ to * 8 + i := by omega
        unfold mm_hr
        rw [pk_un hne, pk_un hne]
        exact h2 b (by omega)
theorem mm_w_hear {to : Nat} {x1 told : Int32} (hto : to < 8)
  (hp : ∀ nF' nW' : Nat → Int32, (∀ j, ¬ (to * 8 ≤ j ∧ j < to * 8 + 8) → nF' j = nF j ∧ nW' j = nW j) → (∀ b, b < 8 → mm_hr x1 told nF nW nF' nW' (to * 8 + b) b) → post (d, nI c, L, db, S, G, N, B, P, T, R, F, W, nF', nW', H, C, O, Lf, K, r0, r1, r2, r3, r4)) : wpX_hearWays post (d, nI c, L, db, S, G, N, B, P, T, R, F, W, nF, nW, H, C, O, Lf, K, r0, r1, r2, r3, r4) x1 (nI to) told :=
  ⟨9, mm_w_hear_l hto nF nW hp 8 0 nF nW rfl (fun _ _ => ⟨rfl, rfl⟩) (fun b hb => absurd hb (by omega))⟩
theorem mm_w_ho_w {to : Nat} {x1 told : Int32} (hto : to < 8)
  (hp : ∀ nF' nW' : Nat → Int32, (∀ j, ¬ (to * 8 ≤ j ∧ j < to * 8 + 8) → nF' j = nF j ∧ nW' j = nW j) → (∀ b, b < 8 → mm_hr x1 told nF nW nF' nW' (to * 8 + b) b) → post (d, nI c, L, db, S, G, N, B, P, T, R, F, W, nF', nW', H, C, O, Lf, K, r0, r1, r2, r3, r4)) : wpX_handOver post (d, nI c, L, db, S, G, N, B, P, T, R, F, W, nF, nW, H, C, O, Lf, K, r0, r1, r2, r3, r4) x1 (nI to) 144 told :=
  br_t rfl (mm_w_hear hto hp)
theorem mm_w_take {a m p s g : Nat} (ha : a < 8) (hm : m < 16) (hp : p < 9) (hs : s < 8) (hg : g < 8) (hS : S m = nI s) (hG : G m = nI g)
  (h1 : p = 8 → a = s → post (d, nI c, L, db, S, G, N, B, P, T, upd R m 1, F, W, nF, nW, H, C, O, Lf, K, r0, r1, r2, r3, r4))
  (h2 : p < 8 → a = g → T m = 0 → post (d, nI c, L, db, S, G, N, B, upd P m (P m ||| ((1 : Int32) <<< (nI p &&& 31))), T, R, F, W, nF, nW, H, C, O, Lf, K, r0, r1, r2, r3, r4))
  (h3 : p < 8 → a = g → ¬ T m = 0 → post (d, nI c, L, db, S, G, N, B, upd P m (P m ||| ((1 : Int32) <<< (nI p &&& 31))), T, R, F, W, nF, nW, H, upd C (a * 16 + m) (C (a * 16 + m) ||| ((1 : Int32) <<< (nI 8 &&& 31))), O, Lf, K, r0, r1, r2, r3, r4))
  (h4 : (p = 8 → a ≠ s) → (p < 8 → a ≠ g) → post (d, nI c, L, db, S, G, N, B, P, T, R, F, W, nF, nW, H, upd C (a * 16 + m) (C (a * 16 + m) ||| ((1 : Int32) <<< (nI p &&& 31))), O, Lf, K, r0, r1, r2, r3, r4)) :
  wpX_takeIn post (d, nI c, L, db, S, G, N, B, P, T, R, F, W, nF, nW, H, C, O, Lf, K, r0, r1, r2, r3, r4) (nI a) (nI m) (nI p) := by
  have h83 : (p = 8 → a ≠ s) → (p < 8 → a ≠ g) → wX_takeIn_83 post (nI a) (nI m) (nI p) d (nI c) L db S G N B P T R F W nF nW H C O Lf K r0 r1 r2 r3 r4 := by
    intro z1 z2
    refine ⟨pk_in (a * 16 + m) 128 (by omega) (mm_i16 a m), pk_in (a * 16 + m) 128 (by omega) (mm_i16 a m), nm_e ?_⟩
    rw [pk_cl (a * 16 + m) (mm_i16 a m)]
    exact h4 z1 z2
  have hmi : vp_in (nI m) 16 := vp_in_nI hm (by decide)
  have hmc : (nI m).toNatClampNeg = m := nI_clamp (by omega)
  have h26 : (p = 8 → a ≠ s) → wX_takeIn_26 post (nI a) (nI m) (nI p) d (nI c) L db S G N B P T R F W nF nW H C O Lf K r0 r1 r2 r3 r4 := by
    intro z1
    refine pk_eq p 8 (fun e => h83 z1 (fun z => absurd z (by omega))) (fun e => ⟨hmi, ?_⟩)
    rw [hmc, hG]
    refine pk_eq a g (fun e2 => ⟨hmi, hmi, nm_e ⟨hmi, br_c (fun z => h2 (by omega) e2 z) (fun z => ⟨pk_in (a * 16 + m) 128 (by omega) (mm_i16 a m), pk_in (a * 16 + m) 128 (by omega) (mm_i16 a m), nm_e ?_⟩)⟩⟩) (fun e2 => h83 z1 (fun _ => e2))
    rw [pk_cl (a * 16 + m) (mm_i16 a m), mm_256]
    exact h3 (by omega) e2 z
  refine pk_eq p 8 (fun e => ⟨hmi, ?_⟩) (fun e => h26 (fun z => absurd z e))
  rw [hmc, hS]
  refine pk_eq a s (fun e2 => ⟨hmi, nm_e ?_⟩) (fun e2 => h26 (fun _ => e2))
  rw [mm_bl]
  exact h1 e e2
theorem mm_w_ho_p {a m p s g : Nat} {x1 told : Int32} (ha : a < 8) (hm : m < 16) (hp : p < 9) (hs : s < 8) (hg : g < 8) (hS : S m = nI s) (hG : G m = nI g)
  (h1 : p = 8 → a = s → post (d, nI c, L, db, S, G, N, B, P, T, upd R m 1, F, W, nF, nW, H, C, O, Lf, K, r0, r1, r2, r3, r4))
  (h2 : p < 8 → a = g → T m = 0 → post (d, nI c, L, db, S, G, N, B, upd P m (P m ||| ((1 : Int32) <<< (nI p &&& 31))), T, R, F, W, nF, nW, H, C, O, Lf, K, r0, r1, r2, r3, r4))
  (h3 : p < 8 → a = g → ¬ T m = 0 → post (d, nI c, L, db, S, G, N, B, upd P m (P m ||| ((1 : Int32) <<< (nI p &&& 31))), T, R, F, W, nF, nW, H, upd C (a * 16 + m) (C (a * 16 + m) ||| ((1 : Int32) <<< (nI 8 &&& 31))), O, Lf, K, r0, r1, r2, r3, r4))
  (h4 : (p = 8 → a ≠ s) → (p < 8 → a ≠ g) → post (d, nI c, L, db, S, G, N, B, P, T, R, F, W, nF, nW, H, upd C (a * 16 + m) (C (a * 16 + m) ||| ((1 : Int32) <<< (nI p &&& 31))), O, Lf, K, r0, r1, r2, r3, r4)) :
  wpX_handOver post (d, nI c, L, db, S, G, N, B, P, T, R, F, W, nF, nW, H, C, O, Lf, K, r0, r1, r2, r3, r4) x1 (nI a) (nI (m * 9 + p)) told := by
  refine pk_eq (m * 9 + p) 144 (fun e => absurd e (by omega)) (fun e => ⟨by decide, by decide, ?_⟩)
  have e1 : nI (m * 9 + p) / 9 = nI m := by
    rw [mm_9, pk_div (by omega) (by omega) (by omega)]
    exact congrArg nI (by omega)
  have e2 : nI (m * 9 + p) - nI (m * 9 + p) / 9 * 9 = nI p := by
    rw [mm_9, pk_rem (by omega) (by omega) (by omega)]
    exact congrArg nI (by omega)
  rw [e2, e1]
  exact mm_w_take ha hm hp hs hg hS hG h1 h2 h3 h4
def mm_or (L O Lf : Nat → Int32) (τ : Nat → Nat) (i : Nat) : Prop := O i = -1 ∨ ∃ s l, s < 8 ∧ l ≤ 20 ∧ O i = nI s ∧ Lf i = nI l ∧ (∀ b, bt (L s) b = true → l + τ s ≤ 20)
def mm_t1 (τ : Nat → Nat) (a : Nat) : Nat → Nat := fun s => if s = a then τ s + 1 else τ s
theorem mm_w_fate_l {po : Int32 → SX → Prop} {a : Nat} {τ : Nat → Nat} (ha : a < 8) (b0 : Nat) (hb0 : bt (L a) b0 = true) (hK : ∀ i, i < 16 → ∃ k, k ≤ 2 ∧ K i = nI k)
  (hp : ∀ (f : Nat) (O Lf : Nat → Int32), f ≤ 3 → (f < 3 → τ a ≤ 20) → (∀ i, i < 16 → mm_or L O Lf (mm_t1 τ a) i) → po (nI f) (d, nI c, L, db, S, G, N, B, P, T, R, F, W, nF, nW, H, C, O, Lf, K, r0, r1, r2, r3, r4)) :
  ∀ (k i f : Nat) (O Lf : Nat → Int32), i + k = 16 → f ≤ 3 → (f < 3 → τ a ≤ 20) → (∀ j, j < i → mm_or L O Lf (mm_t1 τ a) j) → (∀ j, i ≤ j → j < 16 → mm_or L O Lf τ j) → wX_fateOfNextPiece_4 po (nI a) d (nI c) (k + 1) (nI f) (nI i) L db S G N B P T R F W nF nW H C O Lf K r0 r1 r2 r3 r4 := by
  intro k
  induction k with
  | zero =>
    intro i f O Lf hi hf hf3 h1 h2
    have : i = 16 := by omega
    subst this
    exact br_t (by decide) (hp f O Lf hf hf3 h1)
  | succ k ih =>
    intro i f O Lf hi hf hf3 h1 h2
    have hi16 : i < 16 := by omega
    have hin : vp_in (nI i) 16 := vp_in_nI hi16 (by decide)
    refine br_f (nI_ge (b := 16) hi16 (by decide)) ⟨hin, ?_⟩
    rw [nI_clamp (n := i) (by omega)]
    have hme := h2 i (Nat.le_refl i) hi16
    refine br_c (fun e => ⟨hin, ?_⟩) (fun e => nm_r (nI_1 i) (ih (i + 1) f O Lf (by omega) hf hf3 ?_ (fun j hj hj2 => h2 j (by omega) hj2)))
    · rcases hme with z | ⟨s, l, hs, hl, hO, hL, hq⟩
      · rw [z] at e
        exact absurd e.symm (mm_nm1 (by omega))
      · have hsa : s = a := (nI_eq (by omega) (by omega)).mp (hO.symm.trans e)
        subst hsa
        have hq0 := hq b0 hb0
        rw [hL]
        refine pk_eq l 0 (fun el => ⟨hin, ?_⟩) (fun el => ⟨hin, hin, nm_e (nm_r (nI_1 i) (ih (i + 1) f O _ (by omega) hf hf3 ?_ ?_))⟩)
        · obtain ⟨k2, hk2, eK⟩ := hK i hi16
          refine nm_r eK ⟨hin, nm_e (nm_r (nI_1 i) (ih (i + 1) k2 _ Lf (by omega) (by omega) (fun _ => by omega) ?_ ?_))⟩
          · intro j hj
            by_cases ej : j = i
            · subst ej
              exact Or.inl pk_us
            · unfold mm_or
              rw [pk_un ej]
              exact h1 j (by omega)
          · intro j hj hj2
            unfold mm_or
            rw [pk_un (by omega)]
            exact h2 j (by omega) hj2
        · intro j hj
          by_cases ej : j = i
          · subst ej
            refine Or.inr ⟨s, l - 1, hs, by omega, hO, ?_, ?_⟩
            · rw [pk_us]
              exact pk_sub (b := 1) (by omega)
            · intro b hb
              have h5 := hq b hb
              unfold mm_t1
              rw [if_pos rfl]
              omega
          · unfold mm_or
            rw [pk_un ej]
            exact h1 j (by omega)
        · intro j hj hj2
          unfold mm_or
          rw [pk_un (by omega)]
          exact h2 j (by omega) hj2
    · intro j hj
      by_cases ej : j = i
      · subst ej
        rcases hme with z | ⟨s, l, hs, hl, hO, hL, hq⟩
        · exact Or.inl z
        · refine Or.inr ⟨s, l, hs, hl, hO, hL, fun b hb => ?_⟩
          have hsa : s ≠ a := fun z => e (by rw [hO, z])
          unfold mm_t1
          rw [if_neg hsa]
          exact hq b hb
      · exact h1 j (by omega)
theorem mm_w_keep_l {x1 x2 x3 x4 : Int32} (h0 : post (d, nI c, L, db, S, G, N, B, P, T, R, F, W, nF, nW, H, C, O, Lf, K, r0, r1, r2, r3, r4)) (h1 : ∀ i, i < 16 → r0 i = 0 → post (d, nI c, L, db, S, G, N, B, P, T, R, F, W, nF, nW, H, C, O, Lf, K, upd r0 i 3, upd r1 i x1, upd r2 i x2, upd r3 i x3, upd r4 i x4)) :
  ∀ k i : Nat, i + k = 16 → wX_keepLate_3 post x1 x2 x3 x4 d (nI c) L db S G N B P T R F W nF nW H C O Lf K r0 r1 r2 r3 r4 (k + 1) (nI i) := by
  intro k
  induction k with
  | zero =>
    intro i hi
    have : i = 16 := by omega
    subst this
    exact br_t (by decide) h0
  | succ k ih =>
    intro i hi
    have hi16 : i < 16 := by omega
    have hin : vp_in (nI i) 16 := vp_in_nI hi16 (by decide)
    refine br_f (nI_ge (b := 16) hi16 (by decide)) ⟨hin, ?_⟩
    rw [nI_clamp (n := i) (by omega)]
    exact br_c (fun e => ⟨hin, nm_e ⟨hin, nm_e ⟨hin, nm_e ⟨hin, nm_e ⟨hin, nm_e (h1 i hi16 e)⟩⟩⟩⟩⟩) (fun e => nm_r (nI_1 i) (ih (i + 1) (by omega)))
def mm_lt (Z : Int32 → Int32 → Int32 → Prop) (q : Nat) (r0 r1 r2 r3 : Nat → Int32) (i : Nat) : Prop := ∃ r, r ≤ 3 ∧ r0 i = nI r ∧ (r = 0 ∨ (r + q ≤ 24 ∧ Z (r1 i) (r2 i) (r3 i)))
theorem mm_w_send {Z : Int32 → Int32 → Int32 → Prop} {q a : Nat} {τ : Nat → Nat} {x2 x3 x4 : Int32} (ha : a < 8) (b0 : Nat) (hb0 : bt (L a) b0 = true) (hK : ∀ i, i < 16 → ∃ k, k ≤ 2 ∧ K i = nI k)
  (hO : ∀ i, i < 16 → mm_or L O Lf τ i) (hT : ∀ i, i < 16 → mm_lt Z q r0 r1 r2 r3 i) (hq : τ a ≤ 20 → 3 + q ≤ 24) (hZ : Z (nI a) x2 x3)
  (hN : ∀ O Lf r0 r1 r2 r3 r4 : Nat → Int32, (∀ i, i < 16 → mm_or L O Lf (mm_t1 τ a) i) → (∀ i, i < 16 → mm_lt Z q r0 r1 r2 r3 i) → τ a ≤ 20 → post (d, nI c, L, db, S, G, N, B, P, T, R, F, W, nF, nW, H, C, O, Lf, K, r0, r1, r2, r3, r4))
  (hD : ∀ O Lf r0 r1 r2 r3 r4 : Nat → Int32, (∀ i, i < 16 → mm_or L O Lf (mm_t1 τ a) i) → (∀ i, i < 16 → mm_lt Z q r0 r1 r2 r3 i) → wpX_handOver post (d, nI c, L, db, S, G, N, B, P, T, R, F, W, nF, nW, H, C, O, Lf, K, r0, r1, r2, r3, r4) (nI a) x2 x3 x4) :
  wpX_send post (d, nI c, L, db, S, G, N, B, P, T, R, F, W, nF, nW, H, C, O, Lf, K, r0, r1, r2, r3, r4) (nI a) x2 x3 x4 := by
  refine ⟨17, mm_w_fate_l ha b0 hb0 hK ?_ 16 0 3 O Lf rfl (by omega) (fun z => absurd z (by omega)) (fun j hj => absurd hj (by omega)) (fun j _ hj => hO j hj)⟩
  intro f O Lf hf hf3 hO'
  have hk : τ a ≤ 20 → ∀ i, i < 16 → r0 i = 0 → ∀ j, j < 16 → mm_lt Z q (upd r0 i 3) (upd r1 i (nI a)) (upd r2 i x2) (upd r3 i x3) j := by
    intro ht i hi _ j hj
    by_cases e : j = i
    · subst e
      refine ⟨3, by omega, pk_us, Or.inr ⟨hq ht, ?_⟩⟩
      rw [pk_us, pk_us, pk_us]
      exact hZ
    · unfold mm_lt
      rw [pk_un e, pk_un e, pk_un e, pk_un e]
      exact hT j hj
  rcases (by omega : f = 0 ∨ f = 1 ∨ f = 2 ∨ f = 3) with rfl | rfl | rfl | rfl
  · exact br_f (by decide) (br_f (by decide) (br_f (by decide) (br_f (by decide) (hN O Lf r0 r1 r2 r3 r4 hO' hT (hf3 (by omega))))))
  · refine br_t rfl ⟨17, mm_w_keep_l ?_ ?_ 16 0 rfl⟩
    · exact br_t rfl (hD O Lf r0 r1 r2 r3 r4 hO' hT)
    · intro i hi hz
      exact br_t rfl (hD O Lf _ _ _ _ _ hO' (hk (hf3 (by omega)) i hi hz))
  · refine br_f (by decide) (br_t rfl ⟨17, mm_w_keep_l ?_ ?_ 16 0 rfl⟩)
    · exact br_f (by decide) (br_f (by decide) (hN O Lf r0 r1 r2 r3 r4 hO' hT (hf3 (by omega))))
    · intro i hi hz
      exact br_f (by decide) (br_f (by decide) (hN O Lf _ _ _ _ _ hO' (hk (hf3 (by omega)) i hi hz) (hf3 (by omega))))
  · exact br_f (by decide) (br_f (by decide) (br_f (by decide) (br_t rfl (hD O Lf r0 r1 r2 r3 r4 hO' hT))))
end
end
section
abbrev mm_n (x : Int32) : Nat := x.toNatClampNeg
theorem mm_nI {k : Nat} (h : k < 2 ^ 31) : mm_n (nI k) = k := nI_clamp h
def mm_HD (c : Nat) (S G N : Nat → Int32) : Prop := ∀ m, m < c → S m = nI (mm_n (S m)) ∧ mm_n (S m) < 8 ∧ G m = nI (mm_n (G m)) ∧ mm_n (G m) < 8 ∧ mm_n (S m) ≠ mm_n (G m) ∧ N m = nI (mm_n (N m)) ∧ mm_n (N m) < 9
def mm_MI (c : Nat) (L S G N T : Nat → Int32) (Q : Nat → Nat → Nat → Prop) (P R C : Nat → Int32) : Prop :=
  (∀ a m p, a < 8 → m < 16 → bt (C (a * 16 + m)) p = true → Q a m p) ∧
  (∀ m, m < c → T m = 0 → ∀ p, bt (P m) p = true → bt (mm_al (N m)) p = true ∧ mm_cn L (mm_n (S m)) (mm_n (G m))) ∧
  (∀ m, m < c → R m = 0 ∨ T m = 1)
def mm_gd (c : Nat) (L S G N T : Nat → Int32) (Q : Nat → Nat → Nat → Prop) (n m p : Nat) : Prop :=
  m < c ∧ (p = 8 → T m = 1 ∧ (n ≠ mm_n (S m) → Q n m 8)) ∧
  (p < 8 → (n = mm_n (G m) → (T m = 0 → bt (mm_al (N m)) p = true ∧ mm_cn L (mm_n (S m)) (mm_n (G m))) ∧ (¬ T m = 0 → Q n m 8)) ∧ (n ≠ mm_n (G m) → Q n m p))
def mm_okl (c : Nat) (L S N T : Nat → Int32) (n m p : Nat) : Prop := m < c ∧ mm_cn L (mm_n (S m)) n ∧ (p < 8 → bt (mm_al (N m)) p = true) ∧ (p = 8 → T m = 1)
def mm_Z (c : Nat) (L S N T : Nat → Int32) (x1 x2 x3 : Int32) : Prop := ∃ fr to, fr < 8 ∧ to < 8 ∧ x1 = nI fr ∧ x2 = nI to ∧ (x3 = 144 ∨ ∃ m p, p < 9 ∧ x3 = nI (m * 9 + p) ∧ mm_okl c L S N T to m p)
def mm_NF (nF nW : Nat → Int32) : Prop := ∀ a b, a < 8 → b < 8 → nF (a * 8 + b) = nI (mm_n (nF (a * 8 + b))) ∧ (a = b → mm_n (nF (a * 8 + b)) = 0) ∧ (a ≠ b → 1 ≤ mm_n (nF (a * 8 + b)) ∧ mm_n (nF (a * 8 + b)) ≤ 8) ∧ (nW (a * 8 + b) = -1 ∨ ∃ e, e < 8 ∧ nW (a * 8 + b) = nI e)
theorem mm_nibE (told : Int32) (b : Nat) : ∃ v, v < 16 ∧ mm_nib told b = nI v := pk_andE _ 4 (by decide)
theorem mm_NF_hr {nF nW nF' nW' : Nat → Int32} {fr to : Nat} {told : Int32} (hfr : fr < 8) (h : mm_NF nF nW)
  (h1 : ∀ j, ¬ (to * 8 ≤ j ∧ j < to * 8 + 8) → nF' j = nF j ∧ nW' j = nW j) (h2 : ∀ b, b < 8 → mm_hr (nI fr) told nF nW nF' nW' (to * 8 + b) b) : mm_NF nF' nW' := by
  intro a b ha hb
  have h0 := h a b ha hb
  by_cases e : a = to
  · subst e
    rcases h2 b hb with ⟨_, e1, e2⟩ | ⟨hn, e1, e2⟩
    · rw [e1, e2]; exact h0
    · obtain ⟨v, hv, ev⟩ := mm_nibE told b
      rw [ev, nI_1] at hn e1
      rw [e1, e2, mm_nI (k := v + 1) (by omega)]
      rw [h0.1, nI_leI (by have := h0.2.1; have := h0.2.2.1; by_cases z : a = b <;> omega) (by omega)] at hn
      refine ⟨rfl, fun z => ?_, fun z => ?_, Or.inr ⟨fr, hfr, rfl⟩⟩
      · have := h0.2.1 z; omega
      · have := h0.2.2.1 z; omega
  · have := h1 (a * 8 + b) (by omega)
    rw [this.1, this.2]; exact h0
section
variable {d : Int32} {c : Nat} {L db S G N B P T R F W nF nW H C O Lf K r0 r1 r2 r3 r4 : Nat → Int32} {post : SX → Prop} {Q : Nat → Nat → Nat → Prop}
theorem mm_MI_R {m : Nat} (h : mm_MI c L S G N T Q P R C) (hT : T m = 1) : mm_MI c L S G N T Q P (upd R m 1) C := by
  refine ⟨h.1, h.2.1, fun i hi => ?_⟩
  by_cases e : i = m
  · subst e; exact Or.inr hT
  · rw [pk_un e]; exact h.2.2 i hi
theorem mm_MI_P {m p : Nat} (hp : p < 32) (h : mm_MI c L S G N T Q P R C) (hG : T m = 0 → bt (mm_al (N m)) p = true ∧ mm_cn L (mm_n (S m)) (mm_n (G m))) : mm_MI c L S G N T Q (upd P m (P m ||| ((1 : Int32) <<< (nI p &&& 31)))) R C := by
  refine ⟨h.1, fun i hi hT q hq => ?_, h.2.2⟩
  rcases (mm_ob hp).mp hq with z | ⟨e, e2⟩
  · exact h.2.1 i hi hT q z
  · subst e; subst e2; exact hG hT
theorem mm_MI_C {n m p : Nat} (hp : p < 32) (hm : m < 16) (h : mm_MI c L S G N T Q P R C) (hq : Q n m p) : mm_MI c L S G N T Q P R (upd C (n * 16 + m) (C (n * 16 + m) ||| ((1 : Int32) <<< (nI p &&& 31)))) := by
  refine ⟨fun a i q ha hi hb => ?_, h.2.1, h.2.2⟩
  rcases (mm_ob hp).mp hb with z | ⟨e, e2⟩
  · exact h.1 a i q ha hi z
  · have : a = n ∧ i = m := by omega
    rw [this.1, this.2, e2]; exact hq
def mm_D (G P C : Nat → Int32) (n m p : Nat) : Prop := (n = mm_n (G m) → bt (P m) p = true) ∧ (n ≠ mm_n (G m) → bt (C (n * 16 + m)) p = true)
theorem mm_w_dl {n m p : Nat} {x1 told : Int32} (hc : c ≤ 16) (hH : mm_HD c S G N) (hn : n < 8) (hp : p < 9) (hM : mm_MI c L S G N T Q P R C) (hg : mm_gd c L S G N T Q n m p)
  (hpo : ∀ P' R' C' : Nat → Int32, mm_MI c L S G N T Q P' R' C' → (∀ i q, bt (P i) q = true → bt (P' i) q = true) → (∀ i q, bt (C i) q = true → bt (C' i) q = true) → (p < 8 → mm_D G P' C' n m p) → post (d, nI c, L, db, S, G, N, B, P', T, R', F, W, nF, nW, H, C', O, Lf, K, r0, r1, r2, r3, r4)) :
  wpX_handOver post (d, nI c, L, db, S, G, N, B, P, T, R, F, W, nF, nW, H, C, O, Lf, K, r0, r1, r2, r3, r4) x1 (nI n) (nI (m * 9 + p)) told := by
  obtain ⟨hm, hg8, hgd⟩ := hg
  obtain ⟨eS, hs, eG, hgl, hne, eN, hN⟩ := hH m hm
  refine mm_w_ho_p hn (by omega) hp hs hgl eS eG (fun e8 en => ?_) (fun l8 en hT => ?_) (fun l8 en hT => ?_) (fun z1 z2 => ?_)
  · exact hpo P (upd R m 1) C (mm_MI_R hM (hg8 e8).1) (fun _ _ z => z) (fun _ _ z => z) (fun z => absurd z (by omega))
  · refine hpo (upd P m (P m ||| ((1 : Int32) <<< (nI p &&& 31)))) R C (mm_MI_P (by omega) hM ((hgd l8).1 en).1) (fun i q z => (mm_ob (by omega)).mpr (Or.inl z)) (fun _ _ z => z) (fun _ => ⟨fun _ => (mm_ob (by omega)).mpr (Or.inr ⟨rfl, rfl⟩), fun z => absurd en z⟩)
  · refine hpo (upd P m (P m ||| ((1 : Int32) <<< (nI p &&& 31)))) R (upd C (n * 16 + m) (C (n * 16 + m) ||| ((1 : Int32) <<< (nI 8 &&& 31)))) (mm_MI_C (by omega) (by omega) (mm_MI_P (by omega) hM ((hgd l8).1 en).1) (((hgd l8).1 en).2 hT)) (fun i q z => (mm_ob (by omega)).mpr (Or.inl z)) (fun i q z => (mm_ob (by omega)).mpr (Or.inl z)) (fun _ => ⟨fun _ => (mm_ob (by omega)).mpr (Or.inr ⟨rfl, rfl⟩), fun z => absurd en z⟩)
  · have hq : Q n m p := by
      by_cases e8 : p = 8
      · subst e8; exact (hg8 rfl).2 (z1 rfl)
      · exact (hgd (by omega)).2 (z2 (by omega))
    exact hpo P R (upd C (n * 16 + m) (C (n * 16 + m) ||| ((1 : Int32) <<< (nI p &&& 31)))) (mm_MI_C (by omega) (by omega) hM hq) (fun _ _ z => z) (fun i q z => (mm_ob (by omega)).mpr (Or.inl z)) (fun l8 => ⟨fun z => absurd z (z2 l8), fun _ => (mm_ob (by omega)).mpr (Or.inr ⟨rfl, rfl⟩)⟩)
theorem mm_w_late_l {t : Nat} (hc : c ≤ 16) (hH : mm_HD c S G N) (hZ : t < 24 → ∀ n m p, n < 8 → p < 9 → mm_okl c L S N T n m p → mm_gd c L S G N T Q n m p)
  (P0 R0 C0 nF0 nW0 : Nat → Int32)
  (hp : ∀ P R nF nW C r0 : Nat → Int32, mm_MI c L S G N T Q P R C → mm_NF nF nW → (∀ i, i < 16 → mm_lt (mm_Z c L S N T) (t + 1) r0 r1 r2 r3 i) → (24 ≤ t → P = P0 ∧ R = R0 ∧ C = C0 ∧ nF = nF0 ∧ nW = nW0) → post (d, nI c, L, db, S, G, N, B, P, T, R, F, W, nF, nW, H, C, O, Lf, K, r0, r1, r2, r3, r4)) :
  ∀ (k i : Nat) (P R nF nW C r0 : Nat → Int32), i + k = 16 → mm_MI c L S G N T Q P R C → mm_NF nF nW → (∀ j, j < i → mm_lt (mm_Z c L S N T) (t + 1) r0 r1 r2 r3 j) → (∀ j, i ≤ j → j < 16 → mm_lt (mm_Z c L S N T) t r0 r1 r2 r3 j) → (24 ≤ t → P = P0 ∧ R = R0 ∧ C = C0 ∧ nF = nF0 ∧ nW = nW0) → wX_bringLatePieces_2 post (k + 1) (nI i) d (nI c) L db S G N B P T R F W nF nW H C O Lf K r0 r1 r2 r3 r4 := by
  intro k
  induction k with
  | zero =>
    intro i P R nF nW C r0 hi h1 h2 h3 h4 h5
    have : i = 16 := by omega
    subst this
    exact br_t (by decide) (hp P R nF nW C r0 h1 h2 h3 h5)
  | succ k ih =>
    intro i P R nF nW C r0 hi h1 h2 h3 h4 h5
    have hi16 : i < 16 := by omega
    have hin : vp_in (nI i) 16 := vp_in_nI hi16 (by decide)
    refine br_f (nI_ge (b := 16) hi16 (by decide)) ⟨hin, ?_⟩
    rw [nI_clamp (n := i) (by omega)]
    obtain ⟨r, hr, er, hrr⟩ := h4 i (Nat.le_refl i) hi16
    rw [er]
    refine pk_le r 0 (fun e => nm_r (nI_1 i) (ih (i + 1) P R nF nW C r0 (by omega) h1 h2 ?_ (fun j hj hj2 => h4 j (by omega) hj2) h5)) (fun e => ⟨hin, hin, nm_e ⟨hin, ?_⟩⟩)
    · intro j hj
      by_cases ej : j = i
      · subst ej
        exact ⟨r, hr, er, Or.inl (by omega)⟩
      · exact h3 j (by omega)
    · rcases hrr with z | ⟨hrt, hz⟩
      · omega
      have e1 : nI r - 1 = nI (r - 1) := pk_sub (b := 1) (by omega)
      rw [pk_us, e1]
      have h3' : ∀ j, j < i + 1 → mm_lt (mm_Z c L S N T) (t + 1) (upd r0 i (nI (r - 1))) r1 r2 r3 j := by
        intro j hj
        by_cases ej : j = i
        · subst ej
          exact ⟨r - 1, by omega, pk_us, Or.inr ⟨by omega, hz⟩⟩
        · unfold mm_lt
          rw [pk_un ej]
          exact h3 j (by omega)
      have h4' : ∀ j, i + 1 ≤ j → j < 16 → mm_lt (mm_Z c L S N T) t (upd r0 i (nI (r - 1))) r1 r2 r3 j := by
        intro j hj hj2
        unfold mm_lt
        rw [pk_un (by omega)]
        exact h4 j (by omega) hj2
      refine pk_eq (r - 1) 0 (fun e0 => ⟨hin, hin, hin, hin, ?_⟩) (fun e0 => nm_r (nI_1 i) (ih (i + 1) P R nF nW C _ (by omega) h1 h2 h3' h4' (fun z => absurd z (by omega))))
      obtain ⟨fr, to, hfr, hto, ef, et, hpc⟩ := hz
      rw [ef, et]
      rcases hpc with e144 | ⟨m, p, hp9, e9, hok⟩
      · rw [e144]
        exact mm_w_ho_w hto (fun nF' nW' g1 g2 => nm_r (nI_1 i) (ih (i + 1) P R nF' nW' C _ (by omega) h1 (mm_NF_hr hfr h2 g1 g2) h3' h4' (fun z => absurd z (by omega))))
      · rw [e9]
        exact mm_w_dl hc hH hto hp9 h1 (hZ (by omega) to m p hto hp9 hok) (fun P' R' C' g1 _ _ _ => nm_r (nI_1 i) (ih (i + 1) P' R' nF nW C' _ (by omega) g1 h2 h3' h4' (fun z => absurd z (by omega))))
theorem mm_w_late {t : Nat} (hc : c ≤ 16) (hH : mm_HD c S G N) (hZ : t < 24 → ∀ n m p, n < 8 → p < 9 → mm_okl c L S N T n m p → mm_gd c L S G N T Q n m p)
  (h1 : mm_MI c L S G N T Q P R C) (h2 : mm_NF nF nW) (h3 : ∀ j, j < 16 → mm_lt (mm_Z c L S N T) t r0 r1 r2 r3 j)
  (hp : ∀ P' R' nF' nW' C' r0' : Nat → Int32, mm_MI c L S G N T Q P' R' C' → mm_NF nF' nW' → (∀ i, i < 16 → mm_lt (mm_Z c L S N T) (t + 1) r0' r1 r2 r3 i) → (24 ≤ t → P' = P ∧ R' = R ∧ C' = C ∧ nF' = nF ∧ nW' = nW) → post (d, nI c, L, db, S, G, N, B, P', T, R', F, W, nF', nW', H, C', O, Lf, K, r0', r1, r2, r3, r4)) :
  wpX_bringLatePieces post (d, nI c, L, db, S, G, N, B, P, T, R, F, W, nF, nW, H, C, O, Lf, K, r0, r1, r2, r3, r4) :=
  ⟨17, mm_w_late_l hc hH hZ P R C nF nW hp 16 0 P R nF nW C r0 rfl h1 h2 (fun j hj => absurd hj (by omega)) (fun j _ hj => h3 j hj) (fun _ => ⟨rfl, rfl, rfl, rfl, rfl⟩)⟩
theorem mm_w_all {po : Int32 → Prop} {m : Nat} (hm : m < 16) (h : po (mm_al (N m))) : wpX_allPieces po (d, nI c, L, db, S, G, N, B, P, T, R, F, W, nF, nW, H, C, O, Lf, K, r0, r1, r2, r3, r4) (nI m) := by
  have hin : vp_in (nI m) 16 := vp_in_nI hm (by decide)
  refine ⟨hin, ?_⟩
  rw [nI_clamp (n := m) (by omega)]
  unfold mm_al at h
  exact br_c (fun e => by rw [if_pos e] at h; exact h) (fun e => ⟨hin, by rw [if_neg e] at h; exact h⟩)
theorem mm_w_up_l (hc : c ≤ 16) (hH : mm_HD c S G N) (H0 : Nat → Int32)
  (hp : ∀ H : Nat → Int32, (∀ a m p, a < 8 → m < 16 → (bt (H (a * 16 + m)) p = true ↔ (bt (H0 (a * 16 + m)) p = true ∨ (m < c ∧ a = mm_n (S m) ∧ R m = 0 ∧ bt (mm_al (N m)) p = true)))) → post (d, nI c, L, db, S, G, N, B, P, T, R, F, W, nF, nW, H, C, O, Lf, K, r0, r1, r2, r3, r4)) :
  ∀ (k i : Nat) (H : Nat → Int32), i + k = c → (∀ a m p, a < 8 → m < 16 → (bt (H (a * 16 + m)) p = true ↔ (bt (H0 (a * 16 + m)) p = true ∨ (m < i ∧ a = mm_n (S m) ∧ R m = 0 ∧ bt (mm_al (N m)) p = true)))) → wX_takeUpWaiting_2 post d (nI c) (k + 1) (nI i) L db S G N B P T R F W nF nW H C O Lf K r0 r1 r2 r3 r4 := by
  intro k
  induction k with
  | zero =>
    intro i H hi h1
    have : i = c := by omega
    subst this
    exact br_t (nI_le (Nat.le_refl i) (by omega)) (hp H h1)
  | succ k ih =>
    intro i H hi h1
    have hi16 : i < 16 := by omega
    have hin : vp_in (nI i) 16 := vp_in_nI hi16 (by decide)
    refine br_f (nI_ge (by omega) (by omega)) ⟨hin, ?_⟩
    rw [nI_clamp (n := i) (by omega)]
    obtain ⟨eS, hs, -⟩ := hH i (by omega)
    refine br_c (fun e => ⟨hin, ?_⟩) (fun e => nm_r (nI_1 i) (ih (i + 1) H (by omega) ?_))
    · rw [eS]
      refine ⟨pk_in (mm_n (S i) * 16 + i) 128 (by omega) (mm_i16 _ i), mm_w_all hi16 ⟨pk_in (mm_n (S i) * 16 + i) 128 (by omega) (mm_i16 _ i), nm_e (nm_r (nI_1 i) ?_)⟩⟩
      rw [pk_cl (mm_n (S i) * 16 + i) (mm_i16 _ i)]
      refine ih (i + 1) _ (by omega) ?_
      intro a m p ha hm
      by_cases ek : a * 16 + m = mm_n (S i) * 16 + i
      · have : a = mm_n (S i) ∧ m = i := by omega
        obtain ⟨rfl, rfl⟩ := this
        rw [pk_us, b_or, Bool.or_eq_true, h1 _ m p ha hm]
        constructor
        · rintro ((z | z) | z)
          · exact Or.inl z
          · exact absurd z.1 (by omega)
          · exact Or.inr ⟨by omega, rfl, e, z⟩
        · rintro (z | z)
          · exact Or.inl (Or.inl z)
          · exact Or.inr z.2.2.2
      · rw [pk_un ek, h1 a m p ha hm]
        constructor
        · rintro (z | z)
          · exact Or.inl z
          · exact Or.inr ⟨by omega, z.2⟩
        · rintro (z | z)
          · exact Or.inl z
          · refine Or.inr ⟨?_, z.2⟩
            have : m ≠ i := by
              intro e2
              subst e2
              exact ek (by rw [z.2.1])
            omega
    · intro a m p ha hm
      rw [h1 a m p ha hm]
      constructor
      · rintro (z | z)
        · exact Or.inl z
        · exact Or.inr ⟨by omega, z.2⟩
      · rintro (z | z)
        · exact Or.inl z
        · refine Or.inr ⟨?_, z.2⟩
          have : m ≠ i := by
            intro e2
            subst e2
            exact e z.2.2.1
          omega
theorem mm_w_up (hc : c ≤ 16) (hH : mm_HD c S G N)
  (hp : ∀ H' : Nat → Int32, (∀ a m p, a < 8 → m < 16 → (bt (H' (a * 16 + m)) p = true ↔ (bt (H (a * 16 + m)) p = true ∨ (m < c ∧ a = mm_n (S m) ∧ R m = 0 ∧ bt (mm_al (N m)) p = true)))) → post (d, nI c, L, db, S, G, N, B, P, T, R, F, W, nF, nW, H', C, O, Lf, K, r0, r1, r2, r3, r4)) :
  wpX_takeUpWaiting post (d, nI c, L, db, S, G, N, B, P, T, R, F, W, nF, nW, H, C, O, Lf, K, r0, r1, r2, r3, r4) :=
  ⟨c + 1, mm_w_up_l hc hH H hp c 0 H (by omega) (fun a m p _ _ => ⟨fun z => Or.inl z, fun z => z.elim id (fun z => absurd z.1 (by omega))⟩)⟩
theorem mm_w_beg36 (hp : ∀ nF nW : Nat → Int32, (∀ j, j < 64 → nF j = (if j / 8 = j % 8 then 0 else 8) ∧ nW j = -1) → post (d, nI c, L, db, S, G, N, B, P, T, R, F, W, nF, nW, H, C, O, Lf, K, r0, r1, r2, r3, r4)) :
  ∀ (k i : Nat) (nF nW : Nat → Int32), i + k = 64 → (∀ j, j < i → nF j = (if j / 8 = j % 8 then 0 else 8) ∧ nW j = -1) → wX_beginRound_36 post d (nI c) (k + 1) (nI i) L db S G N B P T R F W nF nW H C O Lf K r0 r1 r2 r3 r4 := by
  intro k
  induction k with
  | zero =>
    intro i nF nW hi h1
    have : i = 64 := by omega
    subst this
    exact br_t (by decide) (hp nF nW h1)
  | succ k ih =>
    intro i nF nW hi h1
    have hin : vp_in (nI i) 64 := vp_in_nI (by omega) (by decide)
    refine br_f (nI_ge (b := 64) (by omega) (by decide)) ⟨by decide, by decide, ?_⟩
    have e1 : nI i / 8 = nI (i / 8) := by rw [mm_8, pk_div (by omega) (by omega) (by omega)]
    have e2 : nI i - nI i / 8 * 8 = nI (i % 8) := by rw [mm_8, pk_rem (by omega) (by omega) (by omega)]
    rw [e2, e1]
    refine pk_eq (i / 8) (i % 8) (fun e => ⟨hin, nm_e ⟨hin, nm_e (nm_r (nI_1 i) ?_)⟩⟩) (fun e => ⟨hin, nm_e ⟨hin, nm_e (nm_r (nI_1 i) ?_)⟩⟩)
    · rw [nI_clamp (n := i) (by omega)]
      refine ih (i + 1) _ _ (by omega) (fun j hj => ?_)
      by_cases ej : j = i
      · subst ej
        rw [pk_us, pk_us, if_pos e]; exact ⟨rfl, rfl⟩
      · rw [pk_un ej, pk_un ej]; exact h1 j (by omega)
    · rw [nI_clamp (n := i) (by omega)]
      refine ih (i + 1) _ _ (by omega) (fun j hj => ?_)
      by_cases ej : j = i
      · subst ej
        rw [pk_us, pk_us, if_neg e]; exact ⟨rfl, rfl⟩
      · rw [pk_un ej, pk_un ej]; exact h1 j (by omega)
theorem mm_w_beg2 (C0 : Nat → Int32) (hp : ∀ nF nW H C : Nat → Int32, (∀ j, j < 64 → nF j = (if j / 8 = j % 8 then 0 else 8) ∧ nW j = -1) → (∀ j, j < 128 → H j = C0 j ∧ C j = 0) → post (d, nI c, L, db, S, G, N, B, P, T, R, F, W, nF, nW, H, C, O, Lf, K, r0, r1, r2, r3, r4)) :
  ∀ (k i : Nat) (H C : Nat → Int32), i + k = 128 → (∀ j, j < i → H j = C0 j ∧ C j = 0) → (∀ j, i ≤ j → C j = C0 j) → wX_beginRound_2 post d (nI c) (k + 1) (nI i) L db S G N B P T R F W nF nW H C O Lf K r0 r1 r2 r3 r4 := by
  intro k
  induction k with
  | zero =>
    intro i H C hi h1 h2
    have : i = 128 := by omega
    subst this
    exact br_t (by decide) ⟨65, mm_w_beg36 (fun nF nW z => hp nF nW H C z h1) 64 0 nF nW rfl (fun j hj => absurd hj (by omega))⟩
  | succ k ih =>
    intro i H C hi h1 h2
    have hin : vp_in (nI i) 128 := vp_in_nI (by omega) (by decide)
    refine br_f (nI_ge (b := 128) (by omega) (by decide)) ⟨hin, hin, nm_e ⟨hin, nm_e (nm_r (nI_1 i) ?_)⟩⟩
    rw [nI_clamp (n := i) (by omega)]
    refine ih (i + 1) _ _ (by omega) (fun j hj => ?_) (fun j hj => ?_)
    · by_cases ej : j = i
      · subst ej
        rw [pk_us, pk_us]; exact ⟨h2 j (Nat.le_refl j), rfl⟩
      · rw [pk_un ej, pk_un ej]; exact h1 j (by omega)
    · rw [pk_un (by omega)]; exact h2 j (by omega)
theorem mm_w_beg (hp : ∀ nF' nW' H' C' : Nat → Int32, (∀ j, j < 64 → nF' j = (if j / 8 = j % 8 then 0 else 8) ∧ nW' j = -1) → (∀ j, j < 128 → H' j = C j ∧ C' j = 0) → post (d, nI c, L, db, S, G, N, B, P, T, R, F, W, nF', nW', H', C', O, Lf, K, r0, r1, r2, r3, r4)) :
  wpX_beginRound post (d, nI c, L, db, S, G, N, B, P, T, R, F, W, nF, nW, H, C, O, Lf, K, r0, r1, r2, r3, r4) :=
  ⟨129, mm_w_beg2 C hp 128 0 H C rfl (fun j hj => absurd hj (by omega)) (fun _ _ => rfl)⟩
theorem mm_w_bel_l (hp : ∀ F W : Nat → Int32, (∀ j, j < 64 → F j = nF j ∧ W j = nW j) → post (d, nI c, L, db, S, G, N, B, P, T, R, F, W, nF, nW, H, C, O, Lf, K, r0, r1, r2, r3, r4)) :
  ∀ (k i : Nat) (F W : Nat → Int32), i + k = 64 → (∀ j, j < i → F j = nF j ∧ W j = nW j) → wX_believeWhatWasTold_2 post d (nI c) (k + 1) (nI i) L db S G N B P T R F W nF nW H C O Lf K r0 r1 r2 r3 r4 := by
  intro k
  induction k with
  | zero =>
    intro i F W hi h1
    have : i = 64 := by omega
    subst this
    exact br_t (by decide) (hp F W h1)
  | succ k ih =>
    intro i F W hi h1
    have hin : vp_in (nI i) 64 := vp_in_nI (by omega) (by decide)
    refine br_f (nI_ge (b := 64) (by omega) (by decide)) ⟨hin, hin, nm_e ⟨hin, hin, nm_e (nm_r (nI_1 i) ?_)⟩⟩
    rw [nI_clamp (n := i) (by omega)]
    refine ih (i + 1) _ _ (by omega) (fun j hj => ?_)
    by_cases ej : j = i
    · subst ej
      rw [pk_us, pk_us]; exact ⟨rfl, rfl⟩
    · rw [pk_un ej, pk_un ej]; exact h1 j (by omega)
theorem mm_w_bel (hp : ∀ F' W' : Nat → Int32, (∀ j, j < 64 → F' j = nF j ∧ W' j = nW j) → post (d, nI c, L, db, S, G, N, B, P, T, R, F', W', nF, nW, H, C, O, Lf, K, r0, r1, r2, r3, r4)) : wpX_believeWhatWasTold post (d, nI c, L, db, S, G, N, B, P, T, R, F, W, nF, nW, H, C, O, Lf, K, r0, r1, r2, r3, r4) :=
  ⟨65, mm_w_bel_l hp 64 0 F W rfl (fun j hj => absurd hj (by omega))⟩
end
end
section
theorem mm_or_dn {L O Lf : Nat → Int32} {τ τ' : Nat → Nat} {i : Nat} (h : ∀ s, s < 8 → τ' s ≤ τ s) (ho : mm_or L O Lf τ i) : mm_or L O Lf τ' i := by
  rcases ho with z | ⟨s, l, hs, hl, hO, hL, hq⟩
  · exact Or.inl z
  · refine Or.inr ⟨s, l, hs, hl, hO, hL, fun b hb => ?_⟩
    have := hq b hb
    have := h s hs
    omega
def mm_pr (L G W H P0 P C : Nat → Int32) (h p0 : Nat) : Prop := (∀ i q, bt (P0 i) q = true → bt (P i) q = true) ∧ ∀ a m q n, a < 8 → m < 16 → q < 8 → n < 8 → (a * 16 + m < h ∨ (a * 16 + m = h ∧ q < p0)) → bt (H (a * 16 + m)) q = true → W (a * 8 + mm_n (G m)) = nI n → bt (L a) n = true → mm_D G P C n m q
theorem mm_pr_up {L G W H P0 P C P' C' : Nat → Int32} {h p0 : Nat} (hP : ∀ i q, bt (P i) q = true → bt (P' i) q = true) (hC : ∀ i q, bt (C i) q = true → bt (C' i) q = true) (hr : mm_pr L G W H P0 P C h p0) : mm_pr L G W H P0 P' C' h p0 := by
  refine ⟨fun i q z => hP i q (hr.1 i q z), ?_⟩
  intro a m q n ha hm hq hn h1 h2 h3 h4
  have := hr.2 a m q n ha hm hq hn h1 h2 h3 h4
  exact ⟨fun z => hP _ _ (this.1 z), fun z => hC _ _ (this.2 z)⟩
theorem mm_pr_st {L G W H P0 P C : Nat → Int32} {h p0 : Nat} (hr : mm_pr L G W H P0 P C h p0)
  (hs : p0 < 8 → ∀ n, n < 8 → bt (H h) p0 = true → W (h / 16 * 8 + mm_n (G (h % 16))) = nI n → bt (L (h / 16)) n = true → mm_D G P C n (h % 16) p0) : mm_pr L G W H P0 P C h (p0 + 1) := by
  refine ⟨hr.1, ?_⟩
  intro a m q n ha hm hq hn h1 h2 h3 h4
  by_cases e : a * 16 + m = h ∧ q = p0
  · obtain ⟨e1, e2⟩ := e
    have ea : a = h / 16 := by omega
    have em : m = h % 16 := by omega
    rw [e1] at h2
    rw [ea, em] at h3
    rw [ea] at h4
    rw [em, e2]
    exact hs (by omega) n hn (by rw [← e2]; exact h2) h3 h4
  · exact hr.2 a m q n ha hm hq hn (by omega) h2 h3 h4
section
variable {d : Int32} {c : Nat} {L db S G N B P T R F W nF nW H C O Lf K r0 r1 r2 r3 r4 : Nat → Int32} {post : SX → Prop} {Q : Nat → Nat → Nat → Prop}
theorem mm_w_passOn {a m p e : Nat} (ha : a < 8) (hm : m < 16) (he : e < 8) (hp : p < 9) (hE : (if p = 8 then S m else G m) = nI e) (hW : W (a * 8 + e) = -1 ∨ ∃ n, n < 8 ∧ W (a * 8 + e) = nI n)
  (h0 : (∀ n, n < 8 → W (a * 8 + e) = nI n → bt (L a) n = false) → post (d, nI c, L, db, S, G, N, B, P, T, R, F, W, nF, nW, H, C, O, Lf, K, r0, r1, r2, r3, r4))
  (h1 : ∀ n, n < 8 → W (a * 8 + e) = nI n → bt (L a) n = true → wpX_send post (d, nI c, L, db, S, G, N, B, P, T, R, F, W, nF, nW, H, C, O, Lf, K, r0, r1, r2, r3, r4) (nI a) (nI n) (nI (m * 9 + p)) 0) :
  wpX_passOn post (d, nI c, L, db, S, G, N, B, P, T, R, F, W, nF, nW, H, C, O, Lf, K, r0, r1, r2, r3, r4) (nI a) (nI m) (nI p) := by
  have hmi : vp_in (nI m) 16 := vp_in_nI hm (by decide)
  have h21 : wX_passOn_21 post (nI a) (nI m) (nI p) (nI e) d (nI c) L db S G N B P T R F W nF nW H C O Lf K r0 r1 r2 r3 r4 := by
    refine ⟨pk_in (a * 8 + e) 64 (by omega) (mm_i8 a e), ?_⟩
    rw [pk_cl (a * 8 + e) (mm_i8 a e), mm_i9]
    rcases hW with hW | ⟨n, hn, hW⟩
    · refine nm_r hW (br_t rfl (h0 (fun n hn z => ?_)))
      rw [hW] at z
      exact absurd z.symm (mm_nm1 (by omega))
    · refine nm_r hW (br_f (mm_nm1 (by omega)) ⟨vp_in_nI ha (by decide), ?_⟩)
      rw [nI_clamp (n := a) (by omega)]
      refine mm_w_hb (by omega) (fun hb => h0 (fun n' hn' z => ?_)) (fun hb => h1 n hn hW hb)
      have : n' = n := (nI_eq (by omega) (by omega)).mp (z.symm.trans hW)
      rw [this]; exact hb
  refine pk_eq p 8 (fun e8 => ⟨hmi, ?_⟩) (fun e8 => ⟨hmi, ?_⟩)
  · rw [if_pos e8] at hE
    rw [nI_clamp (n := m) (by omega), hE]
    exact h21
  · rw [if_neg e8] at hE
    rw [nI_clamp (n := m) (by omega), hE]
    exact h21
theorem mm_w_pass11 {t h : Nat} {P0 : Nat → Int32} {J2 : Int32 → Int32 → Int32 → (Nat → Int32) → (Nat → Int32) → (Nat → Int32) → (Nat → Int32) → (Nat → Int32) → (Nat → Int32) → (Nat → Int32) → (Nat → Int32) → (Nat → Int32) → (Nat → Int32) → (Nat → Int32) → (Nat → Int32) → (Nat → Int32) → (Nat → Int32) → (Nat → Int32) → (Nat → Int32) → (Nat → Int32) → (Nat → Int32) → (Nat → Int32) → (Nat → Int32) → (Nat → Int32) → (Nat → Int32) → (Nat → Int32) → Prop}
  (hc : c ≤ 16) (hH : mm_HD c S G N) (hK : ∀ i, i < 16 → ∃ k, k ≤ 2 ∧ K i = nI k) (hW : ∀ a b, a < 8 → b < 8 → W (a * 8 + b) = -1 ∨ ∃ n, n < 8 ∧ W (a * 8 + b) = nI n)
  (hm : ∀ a m p, a < 8 → m < 16 → bt (H (a * 16 + m)) p = true → m < c)
  (hG : ∀ a m p n, a < 8 → m < 16 → p < 9 → n < 8 → bt (H (a * 16 + m)) p = true → W (a * 8 + mm_n (if p = 8 then S m else G m)) = nI n → bt (L a) n = true → mm_gd c L S G N T Q n m p ∧ mm_okl c L S N T n m p)
  (hh : h < 128)
  (hJ : ∀ P R C O Lf r0 r1 r2 r3 r4 : Nat → Int32, (∀ i, i < 16 → mm_or L O Lf (fun _ => t) i) → (∀ i, i < 16 → mm_lt (mm_Z c L S N T) (t + 1) r0 r1 r2 r3 i) → mm_MI c L S G N T Q P R C → (21 ≤ t → mm_pr L G W H P0 P C (h + 1) 0) → J2 (nI (h + 1)) d (nI c) L db S G N B P T R F W nF nW H C O Lf K r0 r1 r2 r3 r4) :
  ∀ (k p : Nat) (P R C O Lf r0 r1 r2 r3 r4 : Nat → Int32), p + k = 9 → (∀ i, i < 16 → mm_or L O Lf (fun _ => t) i) → (∀ i, i < 16 → mm_lt (mm_Z c L S N T) (t + 1) r0 r1 r2 r3 i) → mm_MI c L S G N T Q P R C → (21 ≤ t → mm_pr L G W H P0 P C h p) → wX_passPiecesOn_11 post J2 (nI h) (k + 1) (nI p) d (nI c) L db S G N B P T R F W nF nW H C O Lf K r0 r1 r2 r3 r4 := by
  intro k
  induction k with
  | zero =>
    intro p P R C O Lf r0 r1 r2 r3 r4 hp h1 h2 h3 h4
    have : p = 9 := by omega
    subst this
    refine br_t (by decide) (nm_r (nI_1 h) (hJ P R C O Lf r0 r1 r2 r3 r4 h1 h2 h3 (fun z => ?_)))
    refine ⟨(h4 z).1, ?_⟩
    intro a m q n ha hm' hq hn g1 g2 g3 g4
    exact (h4 z).2 a m q n ha hm' hq hn (by omega) g2 g3 g4
  | succ k ih =>
    intro p P R C O Lf r0 r1 r2 r3 r4 hp h1 h2 h3 h4
    refine br_f (nI_ge (b := 9) (by omega) (by decide)) ⟨vp_in_nI hh (by decide), ?_⟩
    rw [nI_clamp (n := h) (by omega)]
    refine mm_w_hb (by omega) (fun hb => nm_r (nI_1 p) (ih (p + 1) P R C O Lf r0 r1 r2 r3 r4 (by omega) h1 h2 h3 (fun z => mm_pr_st (h4 z) (fun _ n _ y => absurd y (by rw [hb]; decide))))) (fun hb => ⟨by decide, by decide, ?_⟩)
    have e1 : nI h / 16 = nI (h / 16) := by rw [mm_16, pk_div (by omega) (by omega) (by omega)]
    have e2 : nI h - nI h / 16 * 16 = nI (h % 16) := by rw [mm_16, pk_rem (by omega) (by omega) (by omega)]
    rw [e2, e1]
    have ha : h / 16 < 8 := by omega
    have hm16 : h % 16 < 16 := by omega
    have eh : h / 16 * 16 + h % 16 = h := by omega
    have hb' : bt (H (h / 16 * 16 + h % 16)) p = true := by rw [eh]; exact hb
    have hmc := hm (h / 16) (h % 16) p ha hm16 hb'
    obtain ⟨eS, hs, eG, hg, -⟩ := hH (h % 16) hmc
    have hE : (if p = 8 then S (h % 16) else G (h % 16)) = nI (mm_n (if p = 8 then S (h % 16) else G (h % 16))) := by
      by_cases e8 : p = 8
      · rw [if_pos e8]; exact eS
      · rw [if_neg e8]; exact eG
    have hEl : mm_n (if p = 8 then S (h % 16) else G (h % 16)) < 8 := by
      by_cases e8 : p = 8
      · rw [if_pos e8]; exact hs
      · rw [if_neg e8]; exact hg
    refine mm_w_passOn ha hm16 hEl (by omega) hE (hW _ _ ha hEl) (fun hno => nm_r (nI_1 p) (ih (p + 1) P R C O Lf r0 r1 r2 r3 r4 (by omega) h1 h2 h3 (fun z => mm_pr_st (h4 z) (fun p8 n hn _ y1 y2 => ?_)))) (fun n hn eW hab => ?_)
    · rw [if_neg (by omega)] at hno
      exact absurd y2 (by rw [hno n hn y1]; decide)
    · have hgo := hG (h / 16) (h % 16) p n ha hm16 (by omega) hn hb' eW hab
      have hwk : ∀ O Lf : Nat → Int32, (∀ i, i < 16 → mm_or L O Lf (mm_t1 (fun _ => t) (h / 16)) i) → ∀ i, i < 16 → mm_or L O Lf (fun _ => t) i := by
        intro O Lf z i hi
        refine mm_or_dn (fun s _ => ?_) (z i hi)
        unfold mm_t1
        by_cases es : s = h / 16
        · rw [if_pos es]; exact Nat.le_succ t
        · rw [if_neg es]; exact Nat.le_refl t
      refine mm_w_send (τ := fun _ => t) ha n hab hK h1 h2 (fun z => by omega) ⟨h / 16, n, ha, hn, rfl, rfl, Or.inr ⟨h % 16, p, by omega, rfl, hgo.2⟩⟩ ?_ ?_
      · intro O Lf r0 r1 r2 r3 r4 g1 g2 g3
        exact nm_r (nI_1 p) (ih (p + 1) P R C O Lf r0 r1 r2 r3 r4 (by omega) (hwk O Lf g1) g2 h3 (fun z => absurd z (by omega)))
      · intro O Lf r0 r1 r2 r3 r4 g1 g2
        refine mm_w_dl hc hH hn (by omega) h3 hgo.1 (fun P' R' C' m1 m2 m3 m4 => nm_r (nI_1 p) (ih (p + 1) P' R' C' O Lf r0 r1 r2 r3 r4 (by omega) (hwk O Lf g1) g2 m1 (fun z => mm_pr_st (mm_pr_up m2 m3 (h4 z)) (fun p8 n' hn' _ y1 y2 => ?_))))
        rw [if_neg (by omega)] at eW
        have : n' = n := (nI_eq (by omega) (by omega)).mp (y1.symm.trans eW)
        rw [this]
        exact m4 p8
theorem mm_w_pass2 {t : Nat} {P0 : Nat → Int32}
  (hc : c ≤ 16) (hH : mm_HD c S G N) (hK : ∀ i, i < 16 → ∃ k, k ≤ 2 ∧ K i = nI k) (hW : ∀ a b, a < 8 → b < 8 → W (a * 8 + b) = -1 ∨ ∃ n, n < 8 ∧ W (a * 8 + b) = nI n)
  (hm : ∀ a m p, a < 8 → m < 16 → bt (H (a * 16 + m)) p = true → m < c)
  (hG : ∀ a m p n, a < 8 → m < 16 → p < 9 → n < 8 → bt (H (a * 16 + m)) p = true → W (a * 8 + mm_n (if p = 8 then S m else G m)) = nI n → bt (L a) n = true → mm_gd c L S G N T Q n m p ∧ mm_okl c L S N T n m p)
  (hJ : ∀ P R C O Lf r0 r1 r2 r3 r4 : Nat → Int32, (∀ i, i < 16 → mm_or L O Lf (fun _ => t) i) → (∀ i, i < 16 → mm_lt (mm_Z c L S N T) (t + 1) r0 r1 r2 r3 i) → mm_MI c L S G N T Q P R C → (21 ≤ t → mm_pr L G W H P0 P C 128 0) → post (d, nI c, L, db, S, G, N, B, P, T, R, F, W, nF, nW, H, C, O, Lf, K, r0, r1, r2, r3, r4)) :
  ∀ (k h : Nat) (P R C O Lf r0 r1 r2 r3 r4 : Nat → Int32), h + k = 128 → (∀ i, i < 16 → mm_or L O Lf (fun _ => t) i) → (∀ i, i < 16 → mm_lt (mm_Z c L S N T) (t + 1) r0 r1 r2 r3 i) → mm_MI c L S G N T Q P R C → (21 ≤ t → mm_pr L G W H P0 P C h 0) → wX_passPiecesOn_2 post (k + 1) (nI h) d (nI c) L db S G N B P T R F W nF nW H C O Lf K r0 r1 r2 r3 r4 := by
  intro k
  induction k with
  | zero =>
    intro h P R C O Lf r0 r1 r2 r3 r4 hh h1 h2 h3 h4
    have : h = 128 := by omega
    subst this
    exact br_t (by decide) (hJ P R C O Lf r0 r1 r2 r3 r4 h1 h2 h3 h4)
  | succ k ih =>
    intro h P R C O Lf r0 r1 r2 r3 r4 hh h1 h2 h3 h4
    exact br_f (nI_ge (b := 128) (by omega) (by decide)) ⟨10, mm_w_pass11 hc hH hK hW hm hG (by omega) (fun P R C O Lf r0 r1 r2 r3 r4 g1 g2 g3 g4 => ih (h + 1) P R C O Lf r0 r1 r2 r3 r4 (by omega) g1 g2 g3 g4) 9 0 P R C O Lf r0 r1 r2 r3 r4 rfl h1 h2 h3 h4⟩
theorem mm_w_pass {t : Nat}
  (hc : c ≤ 16) (hH : mm_HD c S G N) (hK : ∀ i, i < 16 → ∃ k, k ≤ 2 ∧ K i = nI k) (hW : ∀ a b, a < 8 → b < 8 → W (a * 8 + b) = -1 ∨ ∃ n, n < 8 ∧ W (a * 8 + b) = nI n)
  (hm : ∀ a m p, a < 8 → m < 16 → bt (H (a * 16 + m)) p = true → m < c)
  (hG : ∀ a m p n, a < 8 → m < 16 → p < 9 → n < 8 → bt (H (a * 16 + m)) p = true → W (a * 8 + mm_n (if p = 8 then S m else G m)) = nI n → bt (L a) n = true → mm_gd c L S G N T Q n m p ∧ mm_okl c L S N T n m p)
  (h1 : ∀ i, i < 16 → mm_or L O Lf (fun _ => t) i) (h2 : ∀ i, i < 16 → mm_lt (mm_Z c L S N T) (t + 1) r0 r1 r2 r3 i) (h3 : mm_MI c L S G N T Q P R C)
  (hJ : ∀ P' R' C' O' Lf' r0' r1' r2' r3' r4' : Nat → Int32, (∀ i, i < 16 → mm_or L O' Lf' (fun _ => t) i) → (∀ i, i < 16 → mm_lt (mm_Z c L S N T) (t + 1) r0' r1' r2' r3' i) → mm_MI c L S G N T Q P' R' C' → (21 ≤ t → mm_pr L G W H P P' C' 128 0) → post (d, nI c, L, db, S, G, N, B, P', T, R', F, W, nF, nW, H, C', O', Lf', K, r0', r1', r2', r3', r4')) :
  wpX_passPiecesOn post (d, nI c, L, db, S, G, N, B, P, T, R, F, W, nF, nW, H, C, O, Lf, K, r0, r1, r2, r3, r4) :=
  ⟨129, mm_w_pass2 hc hH hK hW hm hG hJ 128 0 P R C O Lf r0 r1 r2 r3 r4 rfl h1 h2 h3 (fun _ => ⟨fun _ _ z => z, fun a m q n ha hm' hq hn g1 => absurd g1 (by omega)⟩)⟩
end
end
section
theorem mm_b15 : ∀ i, i < 32 → bt 15 i = decide (i < 4) := by decide +kernel
theorem mm_bf : ∀ f, f < 9 → ∀ i, i < 32 → 4 ≤ i → bt (nI f) i = false := by decide +kernel
theorem mm_told {F : Nat → Int32} {told : Int32} {a b f : Nat} (h : ∀ j, j < 32 → bt told j = bt (F (a * 8 + j / 4)) (j % 4)) (hb : b < 8) (hf : f < 9) (e : F (a * 8 + b) = nI f) : mm_nib told b = nI f := by
  apply b_ext
  intro i hi
  unfold mm_nib
  rw [mm_4i, b_and, b_ushr (4 * b) (by omega), mm_b15 i hi]
  by_cases h4 : i < 4
  · rw [h (4 * b + i) (by omega), show (4 * b + i) / 4 = b from by omega, show (4 * b + i) % 4 = i from by omega, e, decide_eq_true h4, Bool.and_true]
  · rw [decide_eq_false h4, Bool.and_false, mm_bf f hf i hi (by omega)]
/-- what is told in a round without harm, up to the telling of a to b -/
def mm_NX (L F nF nW : Nat → Int32) (a b : Nat) : Prop :=
  (∀ y z, y < 8 → z < 8 → y ≠ z → ((mm_n (nF (y * 8 + z)) = 8 ∧ nW (y * 8 + z) = -1) ∨ (mm_n (nF (y * 8 + z)) < 8 ∧ ∃ e, e < 8 ∧ nW (y * 8 + z) = nI e ∧ bt (L y) e = true ∧ mm_n (nF (y * 8 + z)) = mm_n (F (e * 8 + z)) + 1))) ∧
  (∀ x y z, x < 8 → y < 8 → z < 8 → y ≠ z → (x < a ∨ (x = a ∧ y < b)) → bt (L x) y = true → mm_n (nF (y * 8 + z)) ≤ mm_n (F (x * 8 + z)) + 1)
theorem mm_NX_st {L F W nF nW nF' nW' : Nat → Int32} {a b : Nat} {told : Int32} (hL : mm_LK L) (ha : a < 8) (hb : b < 8) (hab : bt (L a) b = true) (hF : mm_NF F W) (hnF : mm_NF nF nW) (ht : ∀ z, z < 8 → mm_nib told z = F (a * 8 + z))
  (h1 : ∀ j, ¬ (b * 8 ≤ j ∧ j < b * 8 + 8) → nF' j = nF j ∧ nW' j = nW j) (h2 : ∀ z, z < 8 → mm_hr (nI a) told nF nW nF' nW' (b * 8 + z) z) (hx : mm_NX L F nF nW a b) : mm_NX L F nF' nW' a (b + 1) := by
  have key : ∀ z, z < 8 → b ≠ z → (nF' (b * 8 + z) = nF (b * 8 + z) ∧ nW' (b * 8 + z) = nW (b * 8 + z) ∧ mm_n (nF (b * 8 + z)) ≤ mm_n (F (a * 8 + z)) + 1) ∨ (mm_n (nF' (b * 8 + z)) = mm_n (F (a * 8 + z)) + 1 ∧ nW' (b * 8 + z) = nI a ∧ mm_n (F (a * 8 + z)) + 1 < mm_n (nF (b * 8 + z))) := by
    intro z hz hbz
    have f0 := hF a z ha hz
    have n0 := hnF b z hb hz
    have f8 : mm_n (F (a * 8 + z)) ≤ 8 := by
      by_cases e : a = z
      · have := f0.2.1 e; omega
      · exact (f0.2.2.1 e).2
    have n8 := (n0.2.2.1 hbz).2
    rcases h2 z hz with ⟨g1, g2, g3⟩ | ⟨g1, g2, g3⟩
    · rw [ht z hz, f0.1, nI_1, n0.1, nI_leI (by omega) (by omega)] at g1
      exact Or.inl ⟨g2, g3, g1⟩
    · rw [ht z hz, f0.1, nI_1, n0.1, nI_leI (by omega) (by omega)] at g1
      rw [ht z hz, f0.1, nI_1] at g2
      refine Or.inr ⟨?_, g3, by omega⟩
      rw [g2, mm_nI (by omega)]
  constructor
  · intro y z hy hz hyz
    by_cases e : y = b
    · subst e
      rcases key z hz hyz with ⟨e1, e2, _⟩ | ⟨e1, e2, e3⟩
      · rw [e1, e2]; exact hx.1 y z hy hz hyz
      · have n8 := ((hnF y z hy hz).2.2.1 hyz).2
        exact Or.inr ⟨by omega, a, ha, e2, (hL a ha y hab).2.2, e1⟩
    · have := h1 (y * 8 + z) (by omega)
      rw [this.1, this.2]; exact hx.1 y z hy hz hyz
  · intro x y z hxx hy hz hyz hpr hxy
    by_cases e : y = b
    · subst e
      by_cases e2 : x = a
      · subst e2
        rcases key z hz hyz with ⟨e1, _, e3⟩ | ⟨e1, _, e3⟩
        · rw [e1]; exact e3
        · omega
      · have h5 := hx.2 x y z hxx hy hz hyz (by omega) hxy
        rcases key z hz hyz with ⟨e1, _, e3⟩ | ⟨e1, _, e3⟩
        · rw [e1]; exact h5
        · omega
    · have := h1 (y * 8 + z) (by omega)
      rw [this.1]
      exact hx.2 x y z hxx hy hz hyz (by omega) hxy
def mm_tau (t a : Nat) : Nat → Nat := fun s => if s < a then t + 1 else t
theorem mm_tau_lt {t a s : Nat} (h : s < a) : mm_tau t a s = t + 1 := if_pos h
theorem mm_tau_ge {t a s : Nat} (h : a ≤ s) : mm_tau t a s = t := if_neg (by omega)
section
variable {d : Int32} {c : Nat} {L db S G N B P T R F W nF nW H C O Lf K r0 r1 r2 r3 r4 : Nat → Int32} {post : SX → Prop} {Z : Int32 → Int32 → Int32 → Prop}
theorem mm_w_tell44 {t a : Nat} {told : Int32} {J2 : Int32 → Int32 → Int32 → (Nat → Int32) → (Nat → Int32) → (Nat → Int32) → (Nat → Int32) → (Nat → Int32) → (Nat → Int32) → (Nat → Int32) → (Nat → Int32) → (Nat → Int32) → (Nat → Int32) → (Nat → Int32) → (Nat → Int32) → (Nat → Int32) → (Nat → Int32) → (Nat → Int32) → (Nat → Int32) → (Nat → Int32) → (Nat → Int32) → (Nat → Int32) → (Nat → Int32) → (Nat → Int32) → (Nat → Int32) → (Nat → Int32) → Prop}
  (hL : mm_LK L) (hK : ∀ i, i < 16 → ∃ k, k ≤ 2 ∧ K i = nI k) (hF : mm_NF F W) (hZ : ∀ x y, x < 8 → y < 8 → Z (nI x) (nI y) 144) (ha : a < 8) (ht : ∀ z, z < 8 → mm_nib told z = F (a * 8 + z))
  (hJ : ∀ nF nW O Lf r0 r1 r2 r3 r4 : Nat → Int32, (∀ i, i < 16 → mm_or L O Lf (mm_tau t (a + 1)) i) → (∀ i, i < 16 → mm_lt Z (t + 1) r0 r1 r2 r3 i) → mm_NF nF nW → (24 ≤ t → mm_NX L F nF nW (a + 1) 0) → J2 (nI (a + 1)) d (nI c) L db S G N B P T R F W nF nW H C O Lf K r0 r1 r2 r3 r4) :
  ∀ (k b : Nat) (nF nW O Lf r0 r1 r2 r3 r4 : Nat → Int32), b + k = 8 → (∀ i, i < 16 → mm_or L O Lf (mm_tau t a) i) → ((∃ b', b' < b ∧ bt (L a) b' = true) → ∀ i, i < 16 → mm_or L O Lf (mm_tau t (a + 1)) i) → (∀ i, i < 16 → mm_lt Z (t + 1) r0 r1 r2 r3 i) → mm_NF nF nW → (24 ≤ t → mm_NX L F nF nW a b) → wX_tellWays_44 post J2 (nI a) told (k + 1) (nI b) d (nI c) L db S G N B P T R F W nF nW H C O Lf K r0 r1 r2 r3 r4 := by
  intro k
  induction k with
  | zero =>
    intro b nF nW O Lf r0 r1 r2 r3 r4 hb h1 h1' h2 h3 h4
    have : b = 8 := by omega
    subst this
    refine br_t (by decide) (nm_r (nI_1 a) (hJ nF nW O Lf r0 r1 r2 r3 r4 ?_ h2 h3 (fun z => ⟨(h4 z).1, fun x y z' hx hy hz hyz hpr hxy => (h4 z).2 x y z' hx hy hz hyz (by omega) hxy⟩)))
    by_cases e : ∃ b', b' < 8 ∧ bt (L a) b' = true
    · exact h1' e
    · intro i hi
      rcases h1 i hi with z | ⟨s, l, hs, hl, hO, hLf, hq⟩
      · exact Or.inl z
      · refine Or.inr ⟨s, l, hs, hl, hO, hLf, fun b hb => ?_⟩
        by_cases es : s = a
        · subst es
          exact absurd ⟨b, (hL s hs b hb).1, hb⟩ e
        · have := hq b hb
          by_cases e2 : s < a
          · rw [mm_tau_lt e2] at this; rw [mm_tau_lt (by omega)]; exact this
          · rw [mm_tau_ge (by omega)] at this; rw [mm_tau_ge (by omega)]; exact this
  | succ k ih =>
    intro b nF nW O Lf r0 r1 r2 r3 r4 hb h1 h1' h2 h3 h4
    refine br_f (nI_ge (b := 8) (by omega) (by decide)) ⟨vp_in_nI ha (by decide), ?_⟩
    rw [nI_clamp (n := a) (by omega)]
    refine mm_w_hb (by omega) (fun hbt => nm_r (nI_1 b) (ih (b + 1) nF nW O Lf r0 r1 r2 r3 r4 (by omega) h1 ?_ h2 h3 (fun z => ⟨(h4 z).1, fun x y z' hx hy hz hyz hpr hxy => ?_⟩))) (fun hbt => ?_)
    · rintro ⟨b', hb', hab⟩
      refine h1' ⟨b', ?_, hab⟩
      have : b' ≠ b := by
        intro e
        rw [e, hbt] at hab
        cases hab
      omega
    · have : ¬ (x = a ∧ y = b) := by
        rintro ⟨rfl, rfl⟩
        rw [hbt] at hxy
        cases hxy
      exact (h4 z).2 x y z' hx hy hz hyz (by omega) hxy
    · have hb8 : b < 8 := by omega
      have hwk : ∀ O Lf : Nat → Int32, (∀ i, i < 16 → mm_or L O Lf (mm_t1 (mm_tau t a) a) i) → ∀ i, i < 16 → mm_or L O Lf (mm_tau t (a + 1)) i := by
        intro O Lf z i hi
        refine mm_or_dn (fun s _ => ?_) (z i hi)
        unfold mm_t1
        by_cases es : s = a
        · rw [if_pos es, mm_tau_lt (by omega), mm_tau_ge (by omega)]; exact Nat.le_refl _
        · rw [if_neg es]
          by_cases e2 : s < a
          · rw [mm_tau_lt e2, mm_tau_lt (by omega)]; exact Nat.le_refl _
          · rw [mm_tau_ge (by omega), mm_tau_ge (by omega)]; exact Nat.le_refl _
      have hwk2 : ∀ O Lf : Nat → Int32, (∀ i, i < 16 → mm_or L O Lf (mm_tau t (a + 1)) i) → ∀ i, i < 16 → mm_or L O Lf (mm_tau t a) i := by
        intro O Lf z i hi
        refine mm_or_dn (fun s _ => ?_) (z i hi)
        by_cases e2 : s < a
        · rw [mm_tau_lt e2, mm_tau_lt (by omega)]; exact Nat.le_refl _
        · rw [mm_tau_ge (by omega)]
          by_cases es : s = a
          · rw [mm_tau_lt (by omega)]; exact Nat.le_succ _
          · rw [mm_tau_ge (by omega)]; exact Nat.le_refl _
      refine mm_w_send (τ := mm_tau t a) ha b hbt hK h1 h2 (fun z => ?_) (hZ a b ha hb8) ?_ ?_
      · rw [mm_tau_ge (Nat.le_refl a)] at z; omega
      · intro O Lf r0 r1 r2 r3 r4 g1 g2 g3
        rw [mm_tau_ge (Nat.le_refl a)] at g3
        exact nm_r (nI_1 b) (ih (b + 1) nF nW O Lf r0 r1 r2 r3 r4 (by omega) (hwk2 O Lf (hwk O Lf g1)) (fun _ => hwk O Lf g1) g2 h3 (fun z => absurd z (by omega)))
      · intro O Lf r0 r1 r2 r3 r4 g1 g2
        exact mm_w_ho_w hb8 (fun nF' nW' m1 m2 => nm_r (nI_1 b) (ih (b + 1) nF' nW' O Lf r0 r1 r2 r3 r4 (by omega) (hwk2 O Lf (hwk O Lf g1)) (fun _ => hwk O Lf g1) g2 (mm_NF_hr ha h3 m1 m2) (fun z => mm_NX_st hL ha hb8 hbt hF h3 ht m1 m2 (h4 z))))
theorem mm_w_tell12 {a : Nat} {J2 : Int32 → Int32 → Int32 → (Nat → Int32) → (Nat → Int32) → (Nat → Int32) → (Nat → Int32) → (Nat → Int32) → (Nat → Int32) → (Nat → Int32) → (Nat → Int32) → (Nat → Int32) → (Nat → Int32) → (Nat → Int32) → (Nat → Int32) → (Nat → Int32) → (Nat → Int32) → (Nat → Int32) → (Nat → Int32) → (Nat → Int32) → (Nat → Int32) → (Nat → Int32) → (Nat → Int32) → (Nat → Int32) → (Nat → Int32) → (Nat → Int32) → Prop} (hF : mm_NF F W) (ha : a < 8)
  (hJ : ∀ told : Int32, (∀ j, j < 32 → bt told j = bt (F (a * 8 + j / 4)) (j % 4)) → ∃ n44 : Nat, wX_tellWays_44 post J2 (nI a) told n44 0 d (nI c) L db S G N B P T R F W nF nW H C O Lf K r0 r1 r2 r3 r4) :
  ∀ (k b : Nat) (told : Int32), b + k = 8 → (∀ j, j < 32 → bt told j = (decide (j < 4 * b) && bt (F (a * 8 + j / 4)) (j % 4))) → wX_tellWays_12 post J2 (nI a) d (nI c) L db S G N B P T R F W nF nW H C O Lf K r0 r1 r2 r3 r4 (k + 1) told (nI b) := by
  intro k
  induction k with
  | zero =>
    intro b told hb h1
    have : b = 8 := by omega
    subst this
    exact br_t (by decide) (hJ told (fun j hj => by rw [h1 j hj, decide_eq_true (by omega), Bool.true_and]))
  | succ k ih =>
    intro b told hb h1
    refine br_f (nI_ge (b := 8) (by omega) (by decide)) ⟨pk_in (a * 8 + b) 64 (by omega) (mm_i8 a b), nm_e (nm_r (nI_1 b) ?_)⟩
    rw [pk_cl (a * 8 + b) (mm_i8 a b), mm_4i]
    refine ih (b + 1) _ (by omega) (fun j hj => ?_)
    rw [b_or, h1 j hj, b_shl (4 * b) (by omega) _ hj]
    have f0 := hF a b ha (by omega)
    have f8 : mm_n (F (a * 8 + b)) < 9 := by
      by_cases e : a = b
      · have := f0.2.1 e; omega
      · have := (f0.2.2.1 e).2; omega
    by_cases c1 : j < 4 * b
    · rw [decide_eq_true c1, decide_eq_true (show j < 4 * (b + 1) by omega), decide_eq_false (show ¬ 4 * b ≤ j by omega), Bool.true_and, Bool.false_and, Bool.or_false]
    · rw [decide_eq_false c1, decide_eq_true (show 4 * b ≤ j by omega), Bool.false_and, Bool.true_and, Bool.false_or]
      by_cases c2 : j < 4 * (b + 1)
      · rw [decide_eq_true c2, Bool.true_and, show j / 4 = b from by omega, show j % 4 = j - 4 * b from by omega]
      · rw [decide_eq_false c2, Bool.false_and, f0.1]
        exact mm_bf _ f8 _ (by omega) (by omega)
theorem mm_w_tell2 {t : Nat} (hL : mm_LK L) (hK : ∀ i, i < 16 → ∃ k, k ≤ 2 ∧ K i = nI k) (hF : mm_NF F W) (hZ : ∀ x y, x < 8 → y < 8 → Z (nI x) (nI y) 144)
  (hJ : ∀ nF nW O Lf r0 r1 r2 r3 r4 : Nat → Int32, (∀ i, i < 16 → mm_or L O Lf (mm_tau t 8) i) → (∀ i, i < 16 → mm_lt Z (t + 1) r0 r1 r2 r3 i) → mm_NF nF nW → (24 ≤ t → mm_NX L F nF nW 8 0) → post (d, nI c, L, db, S, G, N, B, P, T, R, F, W, nF, nW, H, C, O, Lf, K, r0, r1, r2, r3, r4)) :
  ∀ (k a : Nat) (nF nW O Lf r0 r1 r2 r3 r4 : Nat → Int32), a + k = 8 → (∀ i, i < 16 → mm_or L O Lf (mm_tau t a) i) → (∀ i, i < 16 → mm_lt Z (t + 1) r0 r1 r2 r3 i) → mm_NF nF nW → (24 ≤ t → mm_NX L F nF nW a 0) → wX_tellWays_2 post (k + 1) (nI a) d (nI c) L db S G N B P T R F W nF nW H C O Lf K r0 r1 r2 r3 r4 := by
  intro k
  induction k with
  | zero =>
    intro a nF nW O Lf r0 r1 r2 r3 r4 ha h1 h2 h3 h4
    have : a = 8 := by omega
    subst this
    exact br_t (by decide) (hJ nF nW O Lf r0 r1 r2 r3 r4 h1 h2 h3 h4)
  | succ k ih =>
    intro a nF nW O Lf r0 r1 r2 r3 r4 ha h1 h2 h3 h4
    refine br_f (nI_ge (b := 8) (by omega) (by decide)) ⟨9, mm_w_tell12 hF (by omega) (fun told hto => ⟨9, ?_⟩) 8 0 0 rfl (fun j hj => by rw [b_0, decide_eq_false (by omega), Bool.false_and])⟩
    refine mm_w_tell44 hL hK hF hZ (by omega) (fun z hz => ?_) (fun nF nW O Lf r0 r1 r2 r3 r4 g1 g2 g3 g4 => ih (a + 1) nF nW O Lf r0 r1 r2 r3 r4 (by omega) g1 g2 g3 g4) 8 0 nF nW O Lf r0 r1 r2 r3 r4 rfl h1 (fun ⟨b', hb', _⟩ => absurd hb' (by omega)) h2 h3 h4
    have f0 := hF a z (by omega) hz
    have f8 : mm_n (F (a * 8 + z)) < 9 := by
      by_cases e : a = z
      · have := f0.2.1 e; omega
      · have := (f0.2.2.1 e).2; omega
    exact (mm_told hto hz f8 f0.1).trans f0.1.symm
theorem mm_w_tell {t : Nat} (hL : mm_LK L) (hK : ∀ i, i < 16 → ∃ k, k ≤ 2 ∧ K i = nI k) (hF : mm_NF F W) (hZ : ∀ x y, x < 8 → y < 8 → Z (nI x) (nI y) 144)
  (h1 : ∀ i, i < 16 → mm_or L O Lf (fun _ => t) i) (h2 : ∀ i, i < 16 → mm_lt Z (t + 1) r0 r1 r2 r3 i) (h3 : mm_NF nF nW) (h4 : 24 ≤ t → ∀ y z, y < 8 → z < 8 → y ≠ z → mm_n (nF (y * 8 + z)) = 8 ∧ nW (y * 8 + z) = -1)
  (hJ : ∀ nF nW O Lf r0 r1 r2 r3 r4 : Nat → Int32, (∀ i, i < 16 → mm_or L O Lf (fun _ => t + 1) i) → (∀ i, i < 16 → mm_lt Z (t + 1) r0 r1 r2 r3 i) → mm_NF nF nW → (24 ≤ t → mm_NX L F nF nW 8 0) → post (d, nI c, L, db, S, G, N, B, P, T, R, F, W, nF, nW, H, C, O, Lf, K, r0, r1, r2, r3, r4)) :
  wpX_tellWays post (d, nI c, L, db, S, G, N, B, P, T, R, F, W, nF, nW, H, C, O, Lf, K, r0, r1, r2, r3, r4) := by
  refine ⟨9, mm_w_tell2 hL hK hF hZ (fun nF nW O Lf r0 r1 r2 r3 r4 g1 g2 g3 g4 => hJ nF nW O Lf r0 r1 r2 r3 r4 (fun i hi => mm_or_dn (fun s hs => ?_) (g1 i hi)) g2 g3 g4) 8 0 nF nW O Lf r0 r1 r2 r3 r4 rfl (fun i hi => mm_or_dn (fun s hs => ?_) (h1 i hi)) h2 h3 (fun z => ⟨fun y z' hy hz hyz => Or.inl (h4 z y z' hy hz hyz), fun x y z' hx hy hz hyz hpr => absurd hpr (by omega)⟩)⟩
  · rw [mm_tau_lt hs]; exact Nat.le_refl _
  · rw [mm_tau_ge (by omega)]; exact Nat.le_refl _
end
end
section
def mm_Q (c : Nat) (L S G N : Nat → Int32) (t : Nat) (T : Nat → Int32) (a m p : Nat) : Prop := m < c ∧ mm_cn L (mm_n (S m)) a ∧ ((p < 8 ∧ bt (mm_al (N m)) p = true ∧ a ≠ mm_n (G m)) ∨ (p = 8 ∧ a ≠ mm_n (S m) ∧ T m = 1)) ∧ (49 ≤ t → p < 8 → mm_wl L (55 - t) a (mm_n (G m))) ∧ (55 ≤ t → p = 8 → mm_wl L (62 - t) a (mm_n (S m)))
def mm_TI (c : Nat) (L S G T0 T : Nat → Int32) : Prop := (∀ m, m < c → (T m = 0 ∨ T m = 1) ∧ (T0 m = 1 → T m = 1) ∧ (T m = 1 → T0 m = 1 ∨ mm_cn L (mm_n (S m)) (mm_n (G m)))) ∧ (∀ m, c ≤ m → T m = T0 m)
theorem mm_Q_T {c t : Nat} {L S G N T T' : Nat → Int32} {a m p : Nat} (h : ∀ i, i < c → T i = 1 → T' i = 1) (hq : mm_Q c L S G N t T a m p) : mm_Q c L S G N t T' a m p := by
  obtain ⟨h1, h2, h3, h4⟩ := hq
  exact ⟨h1, h2, h3.elim Or.inl (fun z => Or.inr ⟨z.1, z.2.1, h m h1 z.2.2⟩), h4⟩
theorem mm_Z_T {c : Nat} {L S N T T' : Nat → Int32} {x y z : Int32} (h : ∀ i, i < c → T i = 1 → T' i = 1) (hq : mm_Z c L S N T x y z) : mm_Z c L S N T' x y z := by
  obtain ⟨fr, to, h1, h2, h3, h4, h5⟩ := hq
  refine ⟨fr, to, h1, h2, h3, h4, h5.elim Or.inl (fun ⟨m, p, g1, g2, g3⟩ => Or.inr ⟨m, p, g1, g2, g3.1, g3.2.1, g3.2.2.1, fun z => h m g3.1 (g3.2.2.2 z)⟩)⟩
theorem mm_lt_T {c q i : Nat} {L S N T T' r0 r1 r2 r3 : Nat → Int32} (h : ∀ i, i < c → T i = 1 → T' i = 1) (hq : mm_lt (mm_Z c L S N T) q r0 r1 r2 r3 i) : mm_lt (mm_Z c L S N T') q r0 r1 r2 r3 i := by
  obtain ⟨r, h1, h2, h3⟩ := hq
  exact ⟨r, h1, h2, h3.elim Or.inl (fun z => Or.inr ⟨z.1, mm_Z_T h z.2⟩)⟩
theorem mm_10 : ¬ (1 : Int32) = 0 := by decide
section
variable {d : Int32} {c : Nat} {L db S G N B P T R F W nF nW H C O Lf K r0 r1 r2 r3 r4 : Nat → Int32} {post : SX → Prop}
theorem mm_w_isFor {po : Int32 → Prop} {m : Nat} {x y : Int32} (hm : m < 16) (h1 : S m = x → G m = y → po 1) (h0 : ¬ (S m = x ∧ G m = y) → po 0) : wpX_isFor po (d, nI c, L, db, S, G, N, B, P, T, R, F, W, nF, nW, H, C, O, Lf, K, r0, r1, r2, r3, r4) (nI m) x y := by
  have hin : vp_in (nI m) 16 := vp_in_nI hm (by decide)
  refine ⟨hin, ?_⟩
  rw [nI_clamp (n := m) (by omega)]
  exact br_c (fun e => ⟨hin, br_c (fun e2 => h1 e e2) (fun e2 => h0 (fun z => e2 z.2))⟩) (fun e => h0 (fun z => e z.1))
theorem mm_w_early_l {po : Int32 → Prop} {m : Nat} (hm : m < 16) (hn : (∀ i, i < m → ¬ (T i = 0 ∧ S i = S m ∧ G i = G m)) → po 0) (hy : ∀ i, i < m → T i = 0 → S i = S m → G i = G m → po 1) :
  ∀ k i : Nat, i + k = m → (∀ j, j < i → ¬ (T j = 0 ∧ S j = S m ∧ G j = G m)) → wX_anEarlierOneWaits_2 po (nI m) d (nI c) L db S G N B P T R F W nF nW H C O Lf K r0 r1 r2 r3 r4 (k + 1) (nI i) := by
  intro k
  induction k with
  | zero =>
    intro i hi h1
    have : i = m := by omega
    subst this
    exact br_t (nI_le (Nat.le_refl i) (by omega)) (hn h1)
  | succ k ih =>
    intro i hi h1
    have hin : vp_in (nI i) 16 := vp_in_nI (by omega) (by decide)
    have him : vp_in (nI m) 16 := vp_in_nI (by omega) (by decide)
    refine br_f (nI_ge (by omega) (by omega)) ⟨hin, ?_⟩
    rw [nI_clamp (n := i) (by omega), nI_clamp (n := m) (by omega)]
    refine br_c (fun e => ⟨him, him, mm_w_isFor (by omega) (fun e1 e2 => br_f (by decide) (hy i (by omega) e e1 e2)) (fun en => br_t rfl (nm_r (nI_1 i) (ih (i + 1) (by omega) (fun j hj => ?_))))⟩) (fun e => nm_r (nI_1 i) (ih (i + 1) (by omega) (fun j hj => ?_)))
    · by_cases ej : j = i
      · subst ej; exact fun z => en z.2
      · exact h1 j (by omega)
    · by_cases ej : j = i
      · subst ej; exact fun z => e z.1
      · exact h1 j (by omega)
theorem mm_w_early {po : Int32 → Prop} {m : Nat} (hm : m < 16) (hn : (∀ i, i < m → ¬ (T i = 0 ∧ S i = S m ∧ G i = G m)) → po 0) (hy : ∀ i, i < m → T i = 0 → S i = S m → G i = G m → po 1) : wpX_anEarlierOneWaits po (d, nI c, L, db, S, G, N, B, P, T, R, F, W, nF, nW, H, C, O, Lf, K, r0, r1, r2, r3, r4) (nI m) :=
  ⟨m + 1, mm_w_early_l hm hn hy m 0 (by omega) (fun j hj => absurd hj (by omega))⟩
theorem mm_w_let_l {t : Nat} (hc : c ≤ 16) (hH : mm_HD c S G N) (T0 T1 C1 : Nat → Int32) (h39 : 39 ≤ t → ∀ m, m < c → mm_cn L (mm_n (S m)) (mm_n (G m)) → T1 m = 1)
  (hp : ∀ T C : Nat → Int32, mm_TI c L S G T0 T → mm_MI c L S G N T (mm_Q c L S G N (t + 1) T) P R C → (∀ i, i < c → T1 i = 1 → T i = 1) → (∀ i q, bt (C1 i) q = true → bt (C i) q = true) → ((∀ m, m < c → mm_cn L (mm_n (S m)) (mm_n (G m)) → T1 m = 1 ∨ P m = mm_al (N m)) → ∀ m, m < c → mm_cn L (mm_n (S m)) (mm_n (G m)) → T m = 1) → post (d, nI c, L, db, S, G, N, B, P, T, R, F, W, nF, nW, H, C, O, Lf, K, r0, r1, r2, r3, r4)) :
  ∀ (k i : Nat) (T C : Nat → Int32), i + k = c → mm_TI c L S G T0 T → mm_MI c L S G N T (mm_Q c L S G N (t + 1) T) P R C → (∀ i, i < c → T1 i = 1 → T i = 1) → (∀ i q, bt (C1 i) q = true → bt (C i) q = true) → ((∀ m, m < c → mm_cn L (mm_n (S m)) (mm_n (G m)) → T1 m = 1 ∨ P m = mm_al (N m)) → ∀ m, m < i → mm_cn L (mm_n (S m)) (mm_n (G m)) → T m = 1) → wX_letArrive_2 post d (nI c) (k + 1) (nI i) L db S G N B P T R F W nF nW H C O Lf K r0 r1 r2 r3 r4 := by
  intro k
  induction k with
  | zero =>
    intro i T C hi h1 h2 h3 h4 h5
    have : i = c := by omega
    subst this
    exact br_t (nI_le (Nat.le_refl i) (by omega)) (hp T C h1 h2 h3 h4 h5)
  | succ k ih =>
    intro i T C hi h1 h2 h3 h4 h5
    have hic : i < c := by omega
    have hi16 : i < 16 := by omega
    have hin : vp_in (nI i) 16 := vp_in_nI hi16 (by decide)
    refine br_f (nI_ge (by omega) (by omega)) ⟨hin, ?_⟩
    rw [nI_clamp (n := i) (by omega)]
    obtain ⟨eS, hs, eG, hg, hne, eN, hN⟩ := hH i hic
    refine br_c (fun e => ⟨hin, mm_w_all hi16 (br_c (fun eP => mm_w_early hi16 (fun hno => br_t rfl ⟨hin, nm_e ⟨hin, ?_⟩⟩) (fun j hj e0 e1 e2 => br_f (by decide) (nm_r (nI_1 i) (ih (i + 1) T C (by omega) h1 h2 h3 h4 (fun hF m hm hcn => ?_))))) (fun eP => nm_r (nI_1 i) (ih (i + 1) T C (by omega) h1 h2 h3 h4 (fun hF m hm hcn => ?_))))⟩) (fun e => nm_r (nI_1 i) (ih (i + 1) T C (by omega) h1 h2 h3 h4 (fun hF m hm hcn => ?_)))
    · have hcn : mm_cn L (mm_n (S i)) (mm_n (G i)) := by
        refine (h2.2.1 i hic e 0 ?_).2
        rw [eP, eN]
        exact mm_al0 hN
      have ht : t < 39 := by
        rcases Nat.lt_or_ge t 39 with z | z
        · exact z
        · have := h3 i hic (h39 z i hic hcn)
          rw [e] at this
          cases this
      rw [eG, mm_bl, mm_256]
      refine ⟨pk_in (mm_n (G i) * 16 + i) 128 (by omega) (mm_i16 _ i), pk_in (mm_n (G i) * 16 + i) 128 (by omega) (mm_i16 _ i), nm_e (nm_r (nI_1 i) ?_)⟩
      rw [pk_cl (mm_n (G i) * 16 + i) (mm_i16 _ i)]
      have hup : ∀ j, j < c → T j = 1 → upd T i 1 j = 1 := by
        intro j hj hj1
        by_cases ej : j = i
        · subst ej; exact pk_us
        · rw [pk_un ej]; exact hj1
      refine ih (i + 1) _ _ (by omega) ⟨fun m hm => ?_, fun m hm => ?_⟩ (mm_MI_C (by omega) hi16 ⟨fun a m p ha hm hb => mm_Q_T hup (h2.1 a m p ha hm hb), fun m hm z => ?_, fun m hm => ?_⟩ ⟨hic, hcn, Or.inr ⟨rfl, fun z => hne z.symm, pk_us⟩, fun z => absurd z (by omega), fun z => absurd z (by omega)⟩) (fun j hj hj1 => hup j hj (h3 j hj hj1)) (fun j q z => (mm_ob (by omega)).mpr (Or.inl (h4 j q z))) (fun hF m hm hcm => ?_)
      · by_cases ej : m = i
        · subst ej
          rw [pk_us]
          exact ⟨Or.inr rfl, fun _ => rfl, fun _ => Or.inr hcn⟩
        · rw [pk_un ej]; exact h1.1 m hm
      · rw [pk_un (by omega)]; exact h1.2 m hm
      · by_cases ej : m = i
        · subst ej
          rw [pk_us] at z
          exact absurd z mm_10
        · rw [pk_un ej] at z
          exact h2.2.1 m hm z
      · rcases h2.2.2 m hm with z | z
        · exact Or.inl z
        · exact Or.inr (hup m hm z)
      · by_cases ej : m = i
        · subst ej; exact pk_us
        · exact hup m (by omega) (h5 hF m (by omega) hcm)
    · by_cases ej : m = i
      · subst ej
        have : T j = 1 := h5 hF j hj (by rw [e1, e2]; exact hcn)
        rw [e0] at this
        cases this
      · exact h5 hF m (by omega) hcn
    · by_cases ej : m = i
      · subst ej
        rcases hF m hic hcn with z | z
        · exact h3 m hic z
        · exact absurd z eP
      · exact h5 hF m (by omega) hcn
    · by_cases ej : m = i
      · subst ej
        rcases (h1.1 m hic).1 with z | z
        · exact absurd z e
        · exact z
      · exact h5 hF m (by omega) hcn
theorem mm_w_let {t : Nat} (hc : c ≤ 16) (hH : mm_HD c S G N) (T0 : Nat → Int32) (h39 : 39 ≤ t → ∀ m, m < c → mm_cn L (mm_n (S m)) (mm_n (G m)) → T m = 1)
  (h1 : mm_TI c L S G T0 T) (h2 : mm_MI c L S G N T (mm_Q c L S G N (t + 1) T) P R C)
  (hp : ∀ T' C' : Nat → Int32, mm_TI c L S G T0 T' → mm_MI c L S G N T' (mm_Q c L S G N (t + 1) T') P R C' → (∀ i, i < c → T i = 1 → T' i = 1) → (∀ i q, bt (C i) q = true → bt (C' i) q = true) → ((∀ m, m < c → mm_cn L (mm_n (S m)) (mm_n (G m)) → T m = 1 ∨ P m = mm_al (N m)) → ∀ m, m < c → mm_cn L (mm_n (S m)) (mm_n (G m)) → T' m = 1) → post (d, nI c, L, db, S, G, N, B, P, T', R, F, W, nF, nW, H, C', O, Lf, K, r0, r1, r2, r3, r4)) :
  wpX_letArrive post (d, nI c, L, db, S, G, N, B, P, T, R, F, W, nF, nW, H, C, O, Lf, K, r0, r1, r2, r3, r4) :=
  ⟨c + 1, mm_w_let_l hc hH T0 T C h39 hp c 0 T C (by omega) h1 h2 (fun _ _ z => z) (fun _ _ z => z) (fun _ m hm => absurd hm (by omega))⟩
def mm_cth (T : Nat → Int32) : Nat → Nat
  | 0 => 0
  | k + 1 => mm_cth T k + (if T k = 0 then 0 else 1)
theorem mm_cth_le (T : Nat → Int32) (k : Nat) : mm_cth T k ≤ k := by
  induction k with
  | zero => exact Nat.le_refl 0
  | succ k ih =>
    unfold mm_cth
    by_cases h : T k = 0
    · rw [if_pos h]; omega
    · rw [if_neg h]; omega
theorem mm_cth_cg {T T' : Nat → Int32} (k : Nat) (h : ∀ i, i < k → T i = T' i) : mm_cth T k = mm_cth T' k := by
  induction k with
  | zero => rfl
  | succ k ih =>
    unfold mm_cth
    rw [ih (fun i hi => h i (by omega)), h k (by omega)]
theorem mm_w_cth_l {po : Int32 → Prop} (hc : c ≤ 16) (hp : po (nI (mm_cth T c))) :
  ∀ k i : Nat, i + k = c → wX_countThere_4 po d (nI c) L db S G N B P T R F W nF nW H C O Lf K r0 r1 r2 r3 r4 (k + 1) (nI (mm_cth T i)) (nI i) := by
  intro k
  induction k with
  | zero =>
    intro i hi
    have : i = c := by omega
    subst this
    exact br_t (nI_le (Nat.le_refl i) (by omega)) hp
  | succ k ih =>
    intro i hi
    have hin : vp_in (nI i) 16 := vp_in_nI (by omega) (by decide)
    refine br_f (nI_ge (by omega) (by omega)) ⟨hin, ?_⟩
    rw [nI_clamp (n := i) (by omega)]
    have h := ih (i + 1) (by omega)
    refine br_c (fun e => nm_r (nI_1 i) ?_) (fun e => nm_r (nI_1 _) (nm_r (nI_1 i) ?_))
    · have e2 : mm_cth T (i + 1) = mm_cth T i := by
        show mm_cth T i + (if T i = 0 then 0 else 1) = mm_cth T i
        rw [if_pos e, Nat.add_zero]
      rw [e2] at h
      exact h
    · have e2 : mm_cth T (i + 1) = mm_cth T i + 1 := by
        show mm_cth T i + (if T i = 0 then 0 else 1) = mm_cth T i + 1
        rw [if_neg e]
      rw [e2] at h
      exact h
theorem mm_w_cth {po : Int32 → Prop} (hc : c ≤ 16) (hp : po (nI (mm_cth T c))) : wpX_countThere po (d, nI c, L, db, S, G, N, B, P, T, R, F, W, nF, nW, H, C, O, Lf, K, r0, r1, r2, r3, r4) := ⟨c + 1, mm_w_cth_l hc hp c 0 (by omega)⟩
end
end
section
/-- what a station holds to pass on in round t -/
def mm_hk (c : Nat) (L S G N : Nat → Int32) (t : Nat) (T : Nat → Int32) (a m p : Nat) : Prop := m < c ∧ mm_cn L (mm_n (S m)) a ∧ ((p < 8 ∧ bt (mm_al (N m)) p = true ∧ a ≠ mm_n (G m)) ∨ (p = 8 ∧ a ≠ mm_n (S m) ∧ T m = 1)) ∧ (48 ≤ t → p < 8 → mm_cn L a (mm_n (G m)) → mm_wl L (55 - t) a (mm_n (G m))) ∧ (54 ≤ t → p = 8 → mm_wl L (min (62 - t) 7) a (mm_n (S m)))
section
variable {c t : Nat} {L S G N T W F nF nW : Nat → Int32}
theorem mm_hk_Q {a m p : Nat} (hL : mm_LK L) (hH : mm_HD c S G N) (ha : a < 8) (h : mm_Q c L S G N t T a m p) : mm_hk c L S G N t T a m p := by
  obtain ⟨h1, h2, h3, h4, h5⟩ := h
  obtain ⟨-, hs, -⟩ := hH m h1
  refine ⟨h1, h2, h3, fun ht hp hcn => ?_, fun ht hp => ?_⟩
  · rcases Nat.lt_or_ge t 49 with z | z
    · have : 55 - t = 7 := by omega
      rw [this]
      exact (mm_cn7 hL ha).mp hcn
    · exact h4 z hp
  · rcases Nat.lt_or_ge t 55 with z | z
    · have : min (62 - t) 7 = 7 := by omega
      rw [this]
      exact (mm_cn7 hL ha).mp (mm_cn_sy hL hs h2)
    · have : min (62 - t) 7 = 62 - t := by omega
      rw [this]
      exact h5 z hp
theorem mm_hk_S {m p : Nat} (hL : mm_LK L) (hH : mm_HD c S G N) (ht : t < 64) (h16 : t % 16 = 0) (hm : m < c) (hp : bt (mm_al (N m)) p = true) : mm_hk c L S G N t T (mm_n (S m)) m p := by
  obtain ⟨-, hs, -, hg, hne, eN, hN⟩ := hH m hm
  have hp8 : p < 8 := by
    rw [eN] at hp
    exact mm_al8 hN hp
  refine ⟨hm, mm_cn_rf _, Or.inl ⟨hp8, hp, hne⟩, fun h48 _ hcn => ?_, fun _ z => absurd z (by omega)⟩
  have : 55 - t = 7 := by omega
  rw [this]
  exact (mm_cn7 hL hs).mp hcn
/-- a piece that is passed on by a right way -/
theorem mm_way (hL : mm_LK L) (hW : mm_Wy L (fun a b => W (a * 8 + b))) {a b n k : Nat} (ha : a < 8) (hb : b < 8) (hab : a ≠ b) (hk : k ≤ 7) (hn : n < 8) (e : W (a * 8 + b) = nI n) (hw : mm_wl L k a b) : ∃ j, k = j + 1 ∧ mm_wl L j n b := by
  cases k with
  | zero => exact absurd hw hab
  | succ j =>
    obtain ⟨c', hc', e', _, hw'⟩ := (hW a b ha hb hab).1 j (by omega) hw
    have : c' = n := (nI_eq (by omega) (by omega)).mp (e'.symm.trans e)
    rw [this] at hw'
    exact ⟨j, rfl, hw'⟩
theorem mm_wcn (hL : mm_LK L) (hW : mm_Wy L (fun a b => W (a * 8 + b))) {a b n : Nat} (ha : a < 8) (hb : b < 8) (hab : a ≠ b) (hn : n < 8) (e : W (a * 8 + b) = nI n) : mm_cn L a b := by
  apply Classical.byContradiction
  intro z
  have h := (hW a b ha hb hab).2 (fun w => z ⟨7, w⟩)
  rw [show W (a * 8 + b) = -1 from h] at e
  exact mm_nm1 (by omega) e.symm
theorem mm_good {a m p n : Nat} (hL : mm_LK L) (hH : mm_HD c S G N) (hT : ∀ m, m < c → T m = 0 ∨ T m = 1) (hW : 32 ≤ t → mm_Wy L (fun a b => W (a * 8 + b)))
  (ha : a < 8) (hp9 : p < 9) (hn : n < 8) (hk : mm_hk c L S G N t T a m p) (eW : W (a * 8 + mm_n (if p = 8 then S m else G m)) = nI n) (hab : bt (L a) n = true) :
  mm_gd c L S G N T (mm_Q c L S G N (t + 1) T) n m p ∧ mm_okl c L S N T n m p := by
  obtain ⟨hm, hcn, h3, h4, h5⟩ := hk
  obtain ⟨-, hs, -, hg, hne, eN, hN⟩ := hH m hm
  have hcn' : mm_cn L (mm_n (S m)) n := mm_cn_st ha hcn hab
  by_cases e8 : p = 8
  · rw [if_pos e8] at eW
    rcases h3 with h3 | ⟨_, has, hT1⟩
    · omega
    refine ⟨⟨hm, fun _ => ⟨hT1, fun hns => ⟨hm, hcn', Or.inr ⟨rfl, hns, hT1⟩, fun _ z => absurd z (by omega), fun h55 _ => ?_⟩⟩, fun z => absurd z (by omega)⟩, hm, hcn', fun z => absurd z (by omega), fun _ => hT1⟩
    obtain ⟨j, ej, hw⟩ := mm_way hL (hW (by omega)) ha hs has (by omega) hn eW (h5 (by omega) e8)
    exact mm_wl_up (by omega) hw
  · rw [if_neg e8] at eW
    rcases h3 with ⟨hp8, hal, hag⟩ | h3
    · refine ⟨⟨hm, fun z => absurd z e8, fun _ => ⟨fun eng => ⟨fun _ => ⟨hal, by rw [← eng]; exact hcn'⟩, fun hT0 => ?_⟩, fun hng => ⟨hm, hcn', Or.inl ⟨hp8, hal, hng⟩, fun h49 _ => ?_, fun _ z => absurd z e8⟩⟩⟩, hm, hcn', fun _ => hal, fun z => absurd z e8⟩
      · have hT1 : T m = 1 := (hT m hm).elim (fun z => absurd z hT0) id
        refine ⟨hm, hcn', Or.inr ⟨rfl, fun z => hne (z.symm.trans eng), hT1⟩, fun _ z => absurd z (by omega), fun h55 _ => ?_⟩
        rcases Nat.lt_or_ge t 55 with z | z
        · have : 62 - (t + 1) = 7 := by omega
          rw [this]
          exact (mm_cn7 hL hn).mp (mm_cn_sy hL hs hcn')
        · have hc2 := mm_wcn hL (hW (by omega)) ha hg hag hn eW
          have hw := h4 (by omega) hp8 hc2
          have : 55 - t = 0 := by omega
          rw [this] at hw
          exact absurd hw hag
      · have hc2 := mm_wcn hL (hW (by omega)) ha hg hag hn eW
        obtain ⟨j, ej, hw⟩ := mm_way hL (hW (by omega)) ha hg hag (by omega) hn eW (h4 (by omega) hp8 hc2)
        exact mm_wl_up (by omega) hw
    · omega
theorem mm_X_of (hL : mm_LK L) (hn : mm_NF nF nW) (hx : mm_NX L F nF nW 8 0) : mm_X L (fun a b => mm_n (F (a * 8 + b))) (fun a b => mm_n (nF (a * 8 + b))) (fun a b => nW (a * 8 + b)) := by
  intro a b ha hb
  have h0 := hn a b ha hb
  refine ⟨fun e => h0.2.1 e, fun e => ⟨(h0.2.2.1 e).1, (h0.2.2.1 e).2, fun x hx8 hax => ?_, ?_⟩⟩
  · exact hx.2 x a b hx8 ha hb e (Or.inl hx8) (hL a ha x hax).2.2
  · exact hx.1 a b ha hb e
end
/-- the state of settle at the head of round t -/
def mm_SI (c t : Nat) (L S G N T0 P T R F W C O Lf r0 r1 r2 r3 : Nat → Int32) : Prop :=
  mm_TI c L S G T0 T ∧ mm_MI c L S G N T (mm_Q c L S G N t T) P R C ∧ (∀ i, i < 16 → mm_or L O Lf (fun _ => t) i) ∧ (∀ i, i < 16 → mm_lt (mm_Z c L S N T) t r0 r1 r2 r3 i) ∧ mm_NF F W ∧
  (24 ≤ t → mm_E L (fun a b => mm_n (F (a * 8 + b))) (min (t - 24) 7)) ∧ (32 ≤ t → mm_Wy L (fun a b => W (a * 8 + b))) ∧
  (33 ≤ t → ∀ m, m < c → mm_cn L (mm_n (S m)) (mm_n (G m)) → T m = 1 ∨ (t < 39 ∧ ∀ p, bt (mm_al (N m)) p = true → bt (P m) p = true ∨ ∃ a, a < 8 ∧ bt (C (a * 16 + m)) p = true ∧ mm_wl L (39 - t) a (mm_n (G m))))
section
variable {d : Int32} {c : Nat} {L db S G N B P T R F W nF nW H C O Lf K r0 r1 r2 r3 r4 : Nat → Int32} {post : SX → Prop}
/-- live pieces after passPiecesOn -/
theorem mm_live {t : Nat} {P' C' R' : Nat → Int32} (hL : mm_LK L) (hH : mm_HD c S G N) (hc : c ≤ 16) (ht : 32 ≤ t)
  (hR : ∀ m, m < c → R m = 0 ∨ T m = 1)
  (hLV : 33 ≤ t → ∀ m, m < c → mm_cn L (mm_n (S m)) (mm_n (G m)) → T m = 1 ∨ (t < 39 ∧ ∀ p, bt (mm_al (N m)) p = true → bt (P m) p = true ∨ ∃ a, a < 8 ∧ bt (C (a * 16 + m)) p = true ∧ mm_wl L (39 - t) a (mm_n (G m))))
  (hQ : ∀ a m p, a < 8 → m < 16 → bt (C (a * 16 + m)) p = true → mm_Q c L S G N t T a m p)
  (hW : mm_Wy L (fun a b => W (a * 8 + b)))
  (hh : ∀ a m p, a < 8 → m < 16 → (bt (H (a * 16 + m)) p = true ↔ (bt (C (a * 16 + m)) p = true ∨ (t % 16 = 0 ∧ m < c ∧ a = mm_n (S m) ∧ R m = 0 ∧ bt (mm_al (N m)) p = true))))
  (hr : mm_pr L G W H P P' C' 128 0) :
  ∀ m, m < c → mm_cn L (mm_n (S m)) (mm_n (G m)) → T m = 1 ∨ (t < 39 ∧ ∀ p, bt (mm_al (N m)) p = true → bt (P' m) p = true ∨ ∃ a, a < 8 ∧ bt (C' (a * 16 + m)) p = true ∧ mm_wl L (39 - (t + 1)) a (mm_n (G m))) := by
  intro m hm hcn
  obtain ⟨-, hs, -, hg, hne, eN, hN⟩ := hH m hm
  have step : ∀ a p k, a < 8 → bt (mm_al (N m)) p = true → bt (H (a * 16 + m)) p = true → a ≠ mm_n (G m) → k ≤ 7 → k = 39 - t → mm_wl L k a (mm_n (G m)) → bt (P' m) p = true ∨ ∃ a, a < 8 ∧ bt (C' (a * 16 + m)) p = true ∧ mm_wl L (39 - (t + 1)) a (mm_n (G m)) := by
    intro a p k ha hp hb hag hk7 hk hw
    have hp8 : p < 8 := by
      rw [eN] at hp
      exact mm_al8 hN hp
    cases k with
    | zero => exact absurd hw hag
    | succ j =>
      obtain ⟨n, hn, e, hab, hw'⟩ := (hW a _ ha hg hag).1 j (by omega) hw
      have hd := hr.2 a m p n ha (by omega) hp8 hn (Or.inl (by omega)) hb e hab
      by_cases eg : n = mm_n (G m)
      · exact Or.inl (hd.1 eg)
      · refine Or.inr ⟨n, hn, hd.2 eg, ?_⟩
        have : 39 - (t + 1) = j := by omega
        rw [this]
        exact hw'
  rcases Nat.lt_or_ge t 33 with z | z
  · rcases hR m hm with hR0 | hT1
    · refine Or.inr ⟨by omega, fun p hp => ?_⟩
      exact step (mm_n (S m)) p 7 hs hp ((hh _ m p hs (by omega)).mpr (Or.inr ⟨by omega, hm, rfl, hR0, hp⟩)) hne (by omega) (by omega) ((mm_cn7 hL hs).mp hcn)
    · exact Or.inl hT1
  · rcases hLV z m hm hcn with h1 | ⟨h39, h2⟩
    · exact Or.inl h1
    · refine Or.inr ⟨h39, fun p hp => ?_⟩
      rcases h2 p hp with h3 | ⟨a, ha, hb, hw⟩
      · exact Or.inl (hr.1 m p h3)
      · have hq := hQ a m p ha (by omega) hb
        have hp8 : p < 8 := by
          rw [eN] at hp
          exact mm_al8 hN hp
        have hag : a ≠ mm_n (G m) := by
          rcases hq.2.2.1 with y | y
          · exact y.2.2
          · omega
        exact step a p (39 - t) ha hp ((hh _ m p ha (by omega)).mpr (Or.inl hb)) hag (by omega) rfl hw
theorem mm_w_32 {po : Int32 → SX → Prop} {t n : Nat} {x1 : Int32} {C0 T0 : Nat → Int32} (hL : mm_LK L) (hc : c ≤ 16) (hH : mm_HD c S G N) (hK : ∀ i, i < 16 → ∃ k, k ≤ 2 ∧ K i = nI k) (ht : t < 64)
  (hTI : mm_TI c L S G T0 T) (hQ : ∀ a m p, a < 8 → m < 16 → bt (C0 (a * 16 + m)) p = true → mm_Q c L S G N t T a m p)
  (hM : mm_MI c L S G N T (mm_Q c L S G N (t + 1) T) P R C) (hO : ∀ i, i < 16 → mm_or L O Lf (fun _ => t) i) (hT : ∀ i, i < 16 → mm_lt (mm_Z c L S N T) (t + 1) r0 r1 r2 r3 i)
  (hF : mm_NF F W) (hE : 24 ≤ t → mm_E L (fun a b => mm_n (F (a * 8 + b))) (min (t - 24) 7)) (hW : 32 ≤ t → mm_Wy L (fun a b => W (a * 8 + b)))
  (hLV : 33 ≤ t → ∀ m, m < c → mm_cn L (mm_n (S m)) (mm_n (G m)) → T m = 1 ∨ (t < 39 ∧ ∀ p, bt (mm_al (N m)) p = true → bt (P m) p = true ∨ ∃ a, a < 8 ∧ bt (C0 (a * 16 + m)) p = true ∧ mm_wl L (39 - t) a (mm_n (G m))))
  (hn : mm_NF nF nW) (hnx : 24 ≤ t → ∀ y z, y < 8 → z < 8 → y ≠ z → mm_n (nF (y * 8 + z)) = 8 ∧ nW (y * 8 + z) = -1)
  (hh : ∀ a m p, a < 8 → m < 16 → (bt (H (a * 16 + m)) p = true ↔ (bt (C0 (a * 16 + m)) p = true ∨ (t % 16 = 0 ∧ m < c ∧ a = mm_n (S m) ∧ R m = 0 ∧ bt (mm_al (N m)) p = true))))
  (hJ : ∀ P T R F W nF nW C O Lf r0 r1 r2 r3 r4 : Nat → Int32, mm_SI c (t + 1) L S G N T0 P T R F W C O Lf r0 r1 r2 r3 → wX_settle_7 po x1 n (nI (t + 1)) d (nI c) L db S G N B P T R F W nF nW H C O Lf K r0 r1 r2 r3 r4) :
  wX_settle_32 po (wX_settle_7 po x1 n) x1 (nI t) d (nI c) L db S G N B P T R F W nF nW H C O Lf K r0 r1 r2 r3 r4 := by
  have hhk : ∀ a m p, a < 8 → m < 16 → bt (H (a * 16 + m)) p = true → mm_hk c L S G N t T a m p := by
    intro a m p ha hm hb
    rcases (hh a m p ha hm).mp hb with z | ⟨z1, z2, z3, z4, z5⟩
    · exact mm_hk_Q hL hH ha (hQ a m p ha hm z)
    · rw [z3]
      exact mm_hk_S hL hH ht z1 z2 z5
  have hT01 : ∀ m, m < c → T m = 0 ∨ T m = 1 := fun m hm => (hTI.1 m hm).1
  refine mm_w_pass (Q := mm_Q c L S G N (t + 1) T) hc hH hK (fun a b ha hb => (hF a b ha hb).2.2.2) (fun a m p ha hm hb => (hhk a m p ha hm hb).1) (fun a m p n' ha hm hp hn' hb e hab => mm_good hL hH hT01 hW ha hp hn' (hhk a m p ha hm hb) e hab) hO hT hM ?_
  intro P1 R1 C1 O1 Lf1 q0 q1 q2 q3 q4 g1 g2 g3 g4
  have hlive : 32 ≤ t → ∀ m, m < c → mm_cn L (mm_n (S m)) (mm_n (G m)) → T m = 1 ∨ (t < 39 ∧ ∀ p, bt (mm_al (N m)) p = true → bt (P1 m) p = true ∨ ∃ a, a < 8 ∧ bt (C1 (a * 16 + m)) p = true ∧ mm_wl L (39 - (t + 1)) a (mm_n (G m))) :=
    fun z => mm_live (R' := R1) hL hH hc z hM.2.2 hLV hQ (hW z) hh (g4 (by omega))
  refine mm_w_tell (Z := mm_Z c L S N T) hL hK hF (fun x y hx hy => ⟨x, y, hx, hy, rfl, rfl, Or.inl rfl⟩) g1 g2 hn hnx ?_
  intro nF2 nW2 O2 Lf2 s0 s1 s2 s3 s4 k1 k2 k3 k4
  refine mm_w_let hc hH T0 (fun z m hm hcn => ?_) hTI g3 ?_
  · rcases hlive (by omega) m hm hcn with y | y
    · exact y
    · omega
  intro T2 C2 l1 l2 l3 l4 l5
  refine mm_w_bel ?_
  intro F3 W3 b1
  refine nm_r (nI_1 t) (hJ P1 T2 R1 F3 W3 nF2 nW2 C2 O2 Lf2 s0 s1 s2 s3 s4 ?_)
  have bF : ∀ a b, a < 8 → b < 8 → F3 (a * 8 + b) = nF2 (a * 8 + b) ∧ W3 (a * 8 + b) = nW2 (a * 8 + b) := fun a b ha hb => b1 (a * 8 + b) (by omega)
  have hX : 24 ≤ t → mm_X L (fun a b => mm_n (F (a * 8 + b))) (fun a b => mm_n (F3 (a * 8 + b))) (fun a b => W3 (a * 8 + b)) := by
    intro z a b ha hb
    have := mm_X_of hL k3 (k4 z) a b ha hb
    dsimp only
    rw [(bF a b ha hb).1, (bF a b ha hb).2]
    exact this
  refine ⟨l1, l2, k1, fun i hi => mm_lt_T l3 (k2 i hi), fun a b ha hb => ?_, fun z => ?_, fun z => ?_, fun z m hm hcn => ?_⟩
  · rw [(bF a b ha hb).1, (bF a b ha hb).2]
    exact k3 a b ha hb
  · rcases Nat.lt_or_ge t 24 with y | y
    · have e : min (t + 1 - 24) 7 = 0 := by omega
      rw [e]
      intro a b k ha hb hk
      have hk0 : k = 0 := by omega
      subst hk0
      have f0 := k3 a b ha hb
      dsimp only
      rw [(bF a b ha hb).1]
      constructor
      · intro y2
        apply Classical.byContradiction
        intro y3
        have := (f0.2.2.1 y3).1
        omega
      · intro y2
        have := f0.2.1 y2
        omega
    · exact mm_E_t hL (hX y) y (hE y)
  · have he := hE (by omega)
    have e : min (t - 24) 7 = 7 := by omega
    rw [e] at he
    exact mm_Wy_of hL (hX (by omega)) he
  · rcases Nat.lt_or_ge t 38 with y | y
    · rcases hlive (by omega) m hm hcn with y1 | ⟨y1, y2⟩
      · exact Or.inl (l3 m hm y1)
      · refine Or.inr ⟨by omega, fun p hp => ?_⟩
        rcases y2 p hp with y3 | ⟨a, ha, y4, y5⟩
        · exact Or.inl y3
        · exact Or.inr ⟨a, ha, l4 _ _ y4, y5⟩
    · refine Or.inl (l5 (fun m hm hcn => ?_) m hm hcn)
      rcases hlive (by omega) m hm hcn with y1 | ⟨y1, y2⟩
      · exact Or.inl y1
      · rcases hT01 m hm with hT0 | hT1
        · refine Or.inr (b_ext (fun p _ => ?_))
          obtain ⟨-, hs, -, hg, hne, eN, hN⟩ := hH m hm
          by_cases hb : bt (mm_al (N m)) p = true
          · rw [hb]
            rcases y2 p hb with y3 | ⟨a, ha, y4, y5⟩
            · exact y3
            · have hq := g3.1 a m p ha (by omega) y4
              have hp8 : p < 8 := by
                rw [eN] at hb
                exact mm_al8 hN hb
              have hag : a ≠ mm_n (G m) := by
                rcases hq.2.2.1 with x | x
                · exact x.2.2
                · omega
              have e0 : 39 - (t + 1) = 0 := by omega
              rw [e0] at y5
              exact absurd y5 hag
          · rw [Bool.eq_false_iff.mpr hb]
            apply Bool.eq_false_iff.mpr
            intro x
            exact hb (g3.2.1 m hm hT0 p x).1
        · exact Or.inl hT1
theorem mm_w_round {po : Int32 → SX → Prop} {t n : Nat} {x1 : Int32} {T0 : Nat → Int32} (hL : mm_LK L) (hc : c ≤ 16) (hH : mm_HD c S G N) (hK : ∀ i, i < 16 → ∃ k, k ≤ 2 ∧ K i = nI k) (ht : t < 64)
  (hSI : mm_SI c t L S G N T0 P T R F W C O Lf r0 r1 r2 r3)
  (hJ : ∀ P T R F W nF nW H C O Lf r0 r1 r2 r3 r4 : Nat → Int32, mm_SI c (t + 1) L S G N T0 P T R F W C O Lf r0 r1 r2 r3 → wX_settle_7 po x1 n (nI (t + 1)) d (nI c) L db S G N B P T R F W nF nW H C O Lf K r0 r1 r2 r3 r4) :
  wX_settle_7 po x1 (n + 1) (nI t) d (nI c) L db S G N B P T R F W nF nW H C O Lf K r0 r1 r2 r3 r4 := by
  obtain ⟨hTI, hM, hO, hT, hF, hE, hW, hLV⟩ := hSI
  refine br_f (nI_ge (b := 64) ht (by decide)) (mm_w_beg ?_)
  intro nF1 nW1 H1 C1 a1 a2
  have hM1 : mm_MI c L S G N T (mm_Q c L S G N (t + 1) T) P R C1 := by
    refine ⟨fun a m p ha hm hb => ?_, hM.2.1, hM.2.2⟩
    rw [(a2 (a * 16 + m) (by omega)).2, b_0] at hb
    cases hb
  have hi8 : ∀ a b, a < 8 → b < 8 → nF1 (a * 8 + b) = nI (if a = b then 0 else 8) ∧ nW1 (a * 8 + b) = -1 := by
    intro a b ha hb
    have h := a1 (a * 8 + b) (by omega)
    rw [show (a * 8 + b) / 8 = a from by omega, show (a * 8 + b) % 8 = b from by omega] at h
    refine ⟨?_, h.2⟩
    rw [h.1]
    by_cases e : a = b
    · rw [if_pos e, if_pos e]; rfl
    · rw [if_neg e, if_neg e]; rfl
  have hN1 : mm_NF nF1 nW1 := by
    intro a b ha hb
    obtain ⟨h1, h2⟩ := hi8 a b ha hb
    rw [h1, h2]
    by_cases e : a = b
    · rw [if_pos e, mm_nI (by omega)]
      exact ⟨rfl, fun _ => rfl, fun z => absurd e z, Or.inl rfl⟩
    · rw [if_neg e, mm_nI (by omega)]
      exact ⟨rfl, fun z => absurd z e, fun _ => ⟨by omega, by omega⟩, Or.inl rfl⟩
  refine mm_w_late (t := t) (Q := mm_Q c L S G N (t + 1) T) hc hH (fun h24 n' m p hn' hp hok => ?_) hM1 hN1 hT ?_
  · obtain ⟨o1, o2, o3, o4⟩ := hok
    obtain ⟨-, hs, -, hg, hne, -⟩ := hH m o1
    refine ⟨o1, fun e8 => ⟨o4 e8, fun hns => ⟨o1, o2, Or.inr ⟨rfl, hns, o4 e8⟩, fun z => absurd z (by omega), fun z => absurd z (by omega)⟩⟩, fun p8 => ⟨fun en => ⟨fun _ => ⟨o3 p8, by rw [← en]; exact o2⟩, fun hT0 => ?_⟩, fun hng => ⟨o1, o2, Or.inl ⟨p8, o3 p8, hng⟩, fun z => absurd z (by omega), fun z => absurd z (by omega)⟩⟩⟩
    have hT1 : T m = 1 := ((hTI.1 m o1).1).elim (fun z => absurd z hT0) id
    exact ⟨o1, o2, Or.inr ⟨rfl, fun z => hne (z.symm.trans en), hT1⟩, fun z => absurd z (by omega), fun z => absurd z (by omega)⟩
  intro P2 R2 nF2 nW2 C2 q0 g1 g2 g3 g4
  have e16 : nI t - nI t / 16 * 16 = nI (t % 16) := by rw [mm_16, pk_rem (by omega) (by omega) (by omega)]
  refine ⟨by decide, ?_⟩
  rw [e16]
  have hLV2 : 33 ≤ t → ∀ m, m < c → mm_cn L (mm_n (S m)) (mm_n (G m)) → T m = 1 ∨ (t < 39 ∧ ∀ p, bt (mm_al (N m)) p = true → bt (P2 m) p = true ∨ ∃ a, a < 8 ∧ bt (C (a * 16 + m)) p = true ∧ mm_wl L (39 - t) a (mm_n (G m))) := by
    intro z
    rw [(g4 (by omega)).1]
    exact hLV z
  have hnx : 24 ≤ t → ∀ y z, y < 8 → z < 8 → y ≠ z → mm_n (nF2 (y * 8 + z)) = 8 ∧ nW2 (y * 8 + z) = -1 := by
    intro z y z' hy hz hyz
    obtain ⟨-, -, -, e1, e2⟩ := g4 z
    obtain ⟨h1, h2⟩ := hi8 y z' hy hz
    rw [e1, e2, h1, h2, if_neg hyz]
    exact ⟨mm_nI (by omega), rfl⟩
  refine pk_eq (t % 16) 0 (fun e0 => mm_w_up hc hH ?_) (fun e0 => ?_)
  · intro H3 u1
    refine mm_w_32 (C0 := C) (T0 := T0) hL hc hH hK ht hTI hM.1 g1 hO g3 hF hE hW hLV2 g2 hnx ?_ (fun P T R F W nF nW C O Lf r0 r1 r2 r3 r4 z => hJ P T R F W nF nW H3 C O Lf r0 r1 r2 r3 r4 z)
    intro a m p ha hm
    rw [u1 a m p ha hm, (a2 (a * 16 + m) (by omega)).1]
    exact ⟨fun z => z.elim Or.inl (fun z => Or.inr ⟨e0, z⟩), fun z => z.elim Or.inl (fun z => Or.inr z.2)⟩
  · refine mm_w_32 (C0 := C) (T0 := T0) hL hc hH hK ht hTI hM.1 g1 hO g3 hF hE hW hLV2 g2 hnx ?_ (fun P T R F W nF nW C O Lf r0 r1 r2 r3 r4 z => hJ P T R F W nF nW H1 C O Lf r0 r1 r2 r3 r4 z)
    intro a m p ha hm
    rw [(a2 (a * 16 + m) (by omega)).1]
    exact ⟨Or.inl, fun z => z.elim id (fun z => absurd z.1 e0)⟩
theorem mm_w_rounds {po : Int32 → SX → Prop} {x1 : Int32} {T0 : Nat → Int32} (hL : mm_LK L) (hc : c ≤ 16) (hH : mm_HD c S G N) (hK : ∀ i, i < 16 → ∃ k, k ≤ 2 ∧ K i = nI k)
  (hJ : ∀ P T R F W nF nW H C O Lf r0 r1 r2 r3 r4 : Nat → Int32, mm_SI c 64 L S G N T0 P T R F W C O Lf r0 r1 r2 r3 → po (nI (mm_cth T c) - x1) (d, nI c, L, db, S, G, N, B, P, T, R, F, W, nF, nW, H, C, O, Lf, K, r0, r1, r2, r3, r4)) :
  ∀ (k t : Nat) (P T R F W nF nW H C O Lf r0 r1 r2 r3 r4 : Nat → Int32), t + k = 64 → mm_SI c t L S G N T0 P T R F W C O Lf r0 r1 r2 r3 → wX_settle_7 po x1 (k + 1) (nI t) d (nI c) L db S G N B P T R F W nF nW H C O Lf K r0 r1 r2 r3 r4 := by
  intro k
  induction k with
  | zero =>
    intro t P T R F W nF nW H C O Lf r0 r1 r2 r3 r4 ht h1
    have : t = 64 := by omega
    subst this
    exact br_t (by decide) (mm_w_cth hc (hJ P T R F W nF nW H C O Lf r0 r1 r2 r3 r4 h1))
  | succ k ih =>
    intro t P T R F W nF nW H C O Lf r0 r1 r2 r3 r4 ht h1
    exact mm_w_round hL hc hH hK (by omega) h1 (fun P T R F W nF nW H C O Lf r0 r1 r2 r3 r4 z => ih (t + 1) P T R F W nF nW H C O Lf r0 r1 r2 r3 r4 (by omega) z)
end
end
section
def mm_st (x : Int32) : Prop := ∃ a, a < 8 ∧ x = nI a
def mm_st2 (x y : Int32) : Prop := ∃ a b, a < 8 ∧ b < 8 ∧ a ≠ b ∧ x = nI a ∧ y = nI b
theorem mm_st_no0 {x : Int32} (h : x < 0) : ¬ mm_st x := fun ⟨a, ha, e⟩ => by rw [e] at h; exact nI_pos (by omega) h
theorem mm_st_no8 {x : Int32} (h : nI 8 ≤ x) : ¬ mm_st x := fun ⟨a, ha, e⟩ => by
  rw [e, nI_leI (by omega) (by omega)] at h
  omega
theorem mm_x_st {po : Int32 → Prop} {x : Int32} (h1 : ∀ a, a < 8 → x = nI a → po 1) (h0 : ¬ mm_st x → po 0) : wpX_isStation po x := by
  rcases pk_ix x (n := 8) (by decide) with h | h | ⟨j, hj, rfl⟩
  · exact br_t h (h0 (mm_st_no0 h))
  · exact br_c (fun _ => h0 (mm_st_no8 h)) (fun _ => br_t h (h0 (mm_st_no8 h)))
  · exact br_f (nI_pos (by omega)) (br_f (nI_ge (b := 8) hj (by decide)) (h1 j hj rfl))
section
variable {d : Int32} {c : Nat} {L db S G N B P T R F W nF nW H C O Lf K r0 r1 r2 r3 r4 : Nat → Int32} {post : SX → Prop}
theorem mm_y_st {po : Int32 → Prop} {x : Int32} (h1 : ∀ a, a < 8 → x = nI a → po 1) (h0 : ¬ mm_st x → po 0) : wpY_station po (d, nI c, db, L, S, G, N, B, T) x := by
  rcases pk_ix x (n := 8) (by decide) with h | h | ⟨j, hj, rfl⟩
  · exact br_t h (h0 (mm_st_no0 h))
  · exact br_c (fun _ => h0 (mm_st_no8 h)) (fun _ => br_t (Int32.lt_of_lt_of_le (by decide) h) (h0 (mm_st_no8 h)))
  · exact br_f (nI_pos (by omega)) (br_f (nI_nlt (a := 7) (b := j) (by omega) (by decide)) (h1 j hj rfl))
theorem mm_x_two {po : Int32 → Prop} {x y : Int32} (h1 : ∀ a b, a < 8 → b < 8 → a ≠ b → x = nI a → y = nI b → po 1) (h0 : ¬ mm_st2 x y → po 0) : wpX_areTwoStations po x y := by
  refine mm_x_st (fun a ha ea => br_f (by decide) (mm_x_st (fun b hb eb => br_f (by decide) ?_) (fun hn => br_t rfl (h0 (fun ⟨_, b, _, hb, _, _, e⟩ => hn ⟨b, hb, e⟩))))) (fun hn => br_t rfl (h0 (fun ⟨a, _, ha, _, _, e, _⟩ => hn ⟨a, ha, e⟩)))
  refine pk_eq a b (fun e => h0 ?_) (fun e => h1 a b ha hb e ea eb) ea eb
  rintro ⟨a', b', ha', hb', hne, e1, e2⟩
  have h3 : a = a' := (nI_eq (by omega) (by omega)).mp (ea.symm.trans e1)
  have h4 : b = b' := (nI_eq (by omega) (by omega)).mp (eb.symm.trans e2)
  omega
theorem mm_y_two {po : Int32 → Prop} {x y : Int32} (h1 : ∀ a b, a < 8 → b < 8 → a ≠ b → x = nI a → y = nI b → po 1) (h0 : ¬ mm_st2 x y → po 0) : wpY_two po (d, nI c, db, L, S, G, N, B, T) x y := by
  unfold wpY_two
  dsimp only
  refine mm_y_st (fun a ha ea => br_f (by decide) (mm_y_st (fun b hb eb => br_f (by decide) ?_) (fun hn => br_t rfl (h0 (fun ⟨_, b, _, hb, _, _, e⟩ => hn ⟨b, hb, e⟩))))) (fun hn => br_t rfl (h0 (fun ⟨a, _, ha, _, _, e, _⟩ => hn ⟨a, ha, e⟩)))
  refine pk_eq a b (fun e => h0 ?_) (fun e => h1 a b ha hb e ea eb) ea eb
  rintro ⟨a', b', ha', hb', hne, e1, e2⟩
  have h3 : a = a' := (nI_eq (by omega) (by omega)).mp (ea.symm.trans e1)
  have h4 : b = b' := (nI_eq (by omega) (by omega)).mp (eb.symm.trans e2)
  omega
def mm_fu (L : Nat → Int32) (Rr : Int32) : Nat → Nat → Int32 → Int32
  | 0, _, f => f
  | k + 1, i, f => mm_fu L Rr k (i + 1) (if bt Rr i = true then f ||| L i else f)
theorem mm_fu_b (Rr : Int32) (y : Nat) : ∀ (k i : Nat) (f : Int32), bt (mm_fu L Rr k i f) y = true ↔ (bt f y = true ∨ ∃ x, i ≤ x ∧ x < i + k ∧ bt Rr x = true ∧ bt (L x) y = true) := by
  intro k
  induction k with
  | zero =>
    intro i f
    exact ⟨Or.inl, fun z => z.elim id (fun ⟨x, h1, h2, _⟩ => absurd h2 (by omega))⟩
  | succ k ih =>
    intro i f
    show bt (mm_fu L Rr k (i + 1) (if bt Rr i = true then f ||| L i else f)) y = true ↔ _
    rw [ih]
    by_cases e : bt Rr i = true
    · rw [if_pos e, b_or, Bool.or_eq_true]
      constructor
      · rintro ((z | z) | ⟨x, h1, h2, h3⟩)
        · exact Or.inl z
        · exact Or.inr ⟨i, by omega, by omega, e, z⟩
        · exact Or.inr ⟨x, by omega, by omega, h3⟩
      · rintro (z | ⟨x, h1, h2, h3, h4⟩)
        · exact Or.inl (Or.inl z)
        · by_cases ex : x = i
          · subst ex; exact Or.inl (Or.inr h4)
          · exact Or.inr ⟨x, by omega, by omega, h3, h4⟩
    · rw [if_neg e]
      constructor
      · rintro (z | ⟨x, h1, h2, h3⟩)
        · exact Or.inl z
        · exact Or.inr ⟨x, by omega, by omega, h3⟩
      · rintro (z | ⟨x, h1, h2, h3, h4⟩)
        · exact Or.inl z
        · by_cases ex : x = i
          · subst ex; exact absurd h3 e
          · exact Or.inr ⟨x, by omega, by omega, h3, h4⟩
theorem mm_x_fu {po : Int32 → Prop} {Rr : Int32} : ∀ (k i : Nat) (f : Int32), i + k = 8 → po (mm_fu L Rr k i f) → wX_oneLinkFurther_4 po Rr d (nI c) L db S G N B P T R F W nF nW H C O Lf K r0 r1 r2 r3 r4 (k + 1) f (nI i) := by
  intro k
  induction k with
  | zero =>
    intro i f hi hp
    have : i = 8 := by omega
    subst this
    exact br_t (by decide) hp
  | succ k ih =>
    intro i f hi hp
    refine br_f (nI_ge (b := 8) (by omega) (by decide)) (mm_w_hb (by omega) (fun hb => nm_r (nI_1 i) (ih (i + 1) f (by omega) ?_)) (fun hb => ⟨vp_in_nI (by omega) (by decide), nm_e (nm_r (nI_1 i) ?_)⟩))
    · have hp' : po (mm_fu L Rr k (i + 1) (if bt Rr i = true then f ||| L i else f)) := hp
      rw [if_neg (by rw [hb]; decide)] at hp'
      exact hp'
    · have hp' : po (mm_fu L Rr k (i + 1) (if bt Rr i = true then f ||| L i else f)) := hp
      rw [if_pos hb] at hp'
      rw [nI_clamp (n := i) (by omega)]
      exact ih (i + 1) _ (by omega) hp'
theorem mm_y_fu {po : Int32 → Prop} {J : Int32 → Int32 → Prop} {x2 Rr : Int32} {n : Nat} : ∀ (k i : Nat) (f : Int32), i + k = 8 → J (mm_fu L Rr k i f) (nI (n + 1)) → wY_distance_46 po J x2 Rr (nI n) d (nI c) db L S G N B T (k + 1) f (nI i) := by
  intro k
  induction k with
  | zero =>
    intro i f hi hp
    have : i = 8 := by omega
    subst this
    exact br_t (by decide) (nm_r (nI_1 n) hp)
  | succ k ih =>
    intro i f hi hp
    have hp' : J (mm_fu L Rr k (i + 1) (if bt Rr i = true then f ||| L i else f)) (nI (n + 1)) := hp
    refine br_f (nI_ge (b := 8) (by omega) (by decide)) (br_c (fun hb => ⟨vp_in_nI (by omega) (by decide), nm_e (nm_r (nI_1 i) ?_)⟩) (fun hb => nm_r (nI_1 i) (ih (i + 1) f (by omega) ?_)))
    · rw [mm_hb Rr (by omega)] at hb
      rw [if_pos hb] at hp'
      rw [nI_clamp (n := i) (by omega)]
      exact ih (i + 1) _ (by omega) hp'
    · rw [mm_hb Rr (by omega)] at hb
      rw [if_neg hb] at hp'
      exact hp'
def mm_ds (L : Nat → Int32) (a b : Nat) (r : Int32) : Prop := (r = -1 ∧ ¬ mm_cn L a b) ∨ (∃ n, n < 8 ∧ r = nI n ∧ mm_cn L a b)
theorem mm_dist_l {a b : Nat} {d' : Int32} (hL : mm_LK L) (ha : a < 8) (hb : b < 8) : ∀ (k n : Nat) (Rr : Int32), n + k = 8 → (∀ y, bt Rr y = true ↔ mm_wl L n a y) → (∀ j, j < n → ¬ mm_wl L j a b) → ∃ r, mm_ds L a b r ∧ (∀ po : Int32 → Prop, po r → wX_distance_23 po (nI b) d (nI c) L db S G N B P T R F W nF nW H C O Lf K r0 r1 r2 r3 r4 (k + 1) Rr (nI n)) ∧ (∀ po : Int32 → Prop, po r → wY_distance_25 po (nI b) d' (nI c) db L S G N B T (k + 1) Rr (nI n)) := by
  intro k
  induction k with
  | zero =>
    intro n Rr hn h1 h2
    have : n = 8 := by omega
    subst this
    have hnc : ¬ mm_cn L a b := fun z => h2 7 (by omega) ((mm_cn7 hL ha).mp z)
    refine ⟨-1, Or.inl ⟨rfl, hnc⟩, fun po hp => br_t (by decide) hp, fun po hp => br_t (by decide) (br_f ?_ hp)⟩
    rw [mm_hb Rr (by omega), h1 b]
    exact fun z => hnc ⟨8, z⟩
  | succ k ih =>
    intro n Rr hn h1 h2
    have h8 : ¬ (8 : Int32) ≤ nI n := nI_ge (b := 8) (by omega) (by decide)
    by_cases hbit : bt Rr b = true
    · refine ⟨nI n, Or.inr ⟨n, by omega, rfl, ⟨n, (h1 b).mp hbit⟩⟩, fun po hp => br_f h8 (mm_w_hb (by omega) (fun z => absurd hbit (by rw [z]; decide)) (fun _ => hp)), fun po hp => br_f h8 (br_f ?_ (br_t ((mm_hb Rr (by omega)).mpr hbit) hp))⟩
      rw [mm_hb0 Rr (by omega), hbit]
      decide
    · have hnw : ¬ mm_wl L n a b := fun z => hbit ((h1 b).mpr z)
      obtain ⟨r, h3, h4, h5⟩ := ih (n + 1) (mm_fu L Rr 8 0 Rr) (by omega) (fun y => by
        rw [mm_fu_b, h1 y]
        constructor
        · rintro (z | ⟨x, _, hx, z1, z2⟩)
          · exact Or.inl z
          · exact Or.inr ⟨x, by omega, (h1 x).mp z1, z2⟩
        · rintro (z | ⟨x, hx, z1, z2⟩)
          · exact Or.inl z
          · exact Or.inr ⟨x, by omega, by omega, (h1 x).mpr z1, z2⟩) (fun j hj => by
        by_cases e : j = n
        · subst e; exact hnw
        · exact h2 j (by omega))
      refine ⟨r, h3, fun po hp => br_f h8 (mm_w_hb (by omega) (fun _ => ⟨9, mm_x_fu 8 0 Rr rfl (nm_r (nI_1 n) (h4 po hp))⟩) (fun z => absurd z hbit)), fun po hp => br_f h8 (br_t ((mm_hb0 Rr (by omega)).mpr (Bool.eq_false_iff.mpr hbit)) ⟨9, mm_y_fu 8 0 Rr rfl (h5 po hp)⟩)⟩
theorem mm_dist {a b : Nat} {d' : Int32} (hL : mm_LK L) (ha : a < 8) (hb : b < 8) : ∃ r, mm_ds L a b r ∧ (∀ po : Int32 → Prop, po r → wpX_distance po (d, nI c, L, db, S, G, N, B, P, T, R, F, W, nF, nW, H, C, O, Lf, K, r0, r1, r2, r3, r4) (nI a) (nI b)) ∧ (∀ po : Int32 → Prop, po r → wpY_distance po (d', nI c, db, L, S, G, N, B, T) (nI a) (nI b)) := by
  obtain ⟨r, h3, h4, h5⟩ := mm_dist_l (d := d) (c := c) (db := db) (S := S) (G := G) (N := N) (B := B) (P := P) (T := T) (R := R) (F := F) (W := W) (nF := nF) (nW := nW) (H := H) (C := C) (O := O) (Lf := Lf) (K := K) (r0 := r0) (r1 := r1) (r2 := r2) (r3 := r3) (r4 := r4) (d' := d') hL ha hb 8 0 ((1 : Int32) <<< (nI a &&& 31)) rfl (fun y => by
    rw [mm_one (by omega)]
    exact ⟨fun z => z.symm, fun z => z.symm⟩) (fun j hj => absurd hj (by omega))
  refine ⟨r, h3, fun po hp => ?_, fun po hp => ?_⟩
  · unfold wpX_distance
    dsimp only
    exact mm_x_st (fun _ _ _ => br_f (by decide) (mm_x_st (fun _ _ _ => br_f (by decide) (nm_e ⟨9, h4 po hp⟩)) (fun z => absurd ⟨b, hb, rfl⟩ z))) (fun z => absurd ⟨a, ha, rfl⟩ z)
  · unfold wpY_distance
    dsimp only
    exact mm_y_st (fun _ _ _ => br_f (by decide) (mm_y_st (fun _ _ _ => br_f (by decide) (nm_e ⟨9, h5 po hp⟩)) (fun z => absurd ⟨b, hb, rfl⟩ z))) (fun z => absurd ⟨a, ha, rfl⟩ z)
theorem mm_neg : (-1 : Int32) < 0 := by decide
theorem mm_y_goes {po : Int32 → Prop} {m : Nat} (hL : mm_LK L) (hc : c ≤ 16) (hH : mm_HD c S G N) (hm : m < c) (h1 : T m = 0 → mm_cn L (mm_n (S m)) (mm_n (G m)) → po 1) (h0 : ¬ (T m = 0 ∧ mm_cn L (mm_n (S m)) (mm_n (G m))) → po 0) : wpY_goes po (d, nI c, db, L, S, G, N, B, T) (nI m) := by
  have hin : vp_in (nI m) 16 := vp_in_nI (by omega) (by decide)
  obtain ⟨eS, hs, eG, hg, -⟩ := hH m hm
  refine ⟨hin, ?_⟩
  rw [nI_clamp (n := m) (by omega)]
  refine br_c (fun e => ⟨hin, hin, ?_⟩) (fun e => h0 (fun z => e z.1))
  obtain ⟨r, h3, -, h5⟩ := mm_dist (d := d) (c := c) (db := db) (S := S) (G := G) (N := N) (B := B) (P := L) (T := T) (R := L) (F := L) (W := L) (nF := L) (nW := L) (H := L) (C := L) (O := L) (Lf := L) (K := L) (r0 := L) (r1 := L) (r2 := L) (r3 := L) (r4 := L) (d' := d) hL hs hg
  rw [eS, eG]
  apply h5
  rcases h3 with ⟨e1, e2⟩ | ⟨n, hn, e1, e2⟩
  · rw [e1]
    exact br_t mm_neg (h0 (fun z => e2 z.2))
  · rw [e1]
    exact br_f (nI_pos (by omega)) (h1 e e2)
end
end
section
def mm_m1 (s g n p t r : Int32) : Prop := (s = nI (mm_n s) ∧ mm_n s < 8 ∧ g = nI (mm_n g) ∧ mm_n g < 8 ∧ mm_n s ≠ mm_n g ∧ n = nI (mm_n n) ∧ mm_n n < 9) ∧ (t = 0 ∨ t = 1) ∧ (t = 0 → p = 0 ∧ r = 0)
def mm_or0 (O Lf : Nat → Int32) (i : Nat) : Prop := O i = -1 ∨ ∃ s l, s < 8 ∧ l ≤ 20 ∧ O i = nI s ∧ Lf i = nI l
def mm_Rl (d c : Nat) (L S G N P T R F W C O Lf K r0 : Nat → Int32) : Prop :=
  d ≤ 8 ∧ c ≤ 16 ∧ mm_LK L ∧ (∀ m, m < c → mm_m1 (S m) (G m) (N m) (P m) (T m) (R m)) ∧ (∀ h, h < 128 → C h = 0) ∧ (∀ i, i < 16 → r0 i = 0) ∧ mm_NF F W ∧ (∀ i, i < 16 → mm_or0 O Lf i) ∧ (∀ i, i < 16 → ∃ k, k ≤ 2 ∧ K i = nI k)
def i_Rel (_ : Nat) (u : SX) (v : SY) : Prop := ∃ (d c : Nat) (L db S G N B P T R F W nF nW H C O Lf K r0 r1 r2 r3 r4 : Nat → Int32), u = (nI d, nI c, L, db, S, G, N, B, P, T, R, F, W, nF, nW, H, C, O, Lf, K, r0, r1, r2, r3, r4) ∧ v = (nI d, nI c, db, L, S, G, N, B, T) ∧ mm_Rl d c L S G N P T R F W C O Lf K r0
theorem mm_rel {k d c : Nat} {L db S G N B P T R F W nF nW H C O Lf K r0 r1 r2 r3 r4 : Nat → Int32} (h : mm_Rl d c L S G N P T R F W C O Lf K r0) : i_Rel k (nI d, nI c, L, db, S, G, N, B, P, T, R, F, W, nF, nW, H, C, O, Lf, K, r0, r1, r2, r3, r4) (nI d, nI c, db, L, S, G, N, B, T) := ⟨d, c, L, db, S, G, N, B, P, T, R, F, W, nF, nW, H, C, O, Lf, K, r0, r1, r2, r3, r4, rfl, rfl, h⟩
theorem i_up {k : Nat} {u : SX} {v : SY} (h : i_Rel k u v) : i_Rel (k + 4) u v := h
theorem mm_hd {c : Nat} {S G N P T R : Nat → Int32} (h : ∀ m, m < c → mm_m1 (S m) (G m) (N m) (P m) (T m) (R m)) : mm_HD c S G N := fun m hm => (h m hm).1
theorem i_vc_write {k : Nat} {u : SX} {v : SY} (I : i_Rel k u v) (hk : k + 4 ≤ 2048) (v1 : Int32) : wpX_write (fun r u' => wpY_write (fun r' v' => r' = r ∧ i_Rel (k + 4) u' v') v v1) u v1 := by
  obtain ⟨d, c, L, db, S, G, N, B, P, T, R, F, W, nF, nW, H, C, O, Lf, K, r0, r1, r2, r3, r4, rfl, rfl, h⟩ := I
  have hd := h.1
  refine br_c (fun h0 => br_t h0 ⟨rfl, mm_rel h⟩) (fun h0 => br_c (fun h1 => ?_) (fun h1 => br_f h0 (br_f h1 ⟨rfl, mm_rel h⟩)))
  refine pk_lt d 8 (fun h2 => ?_) (fun h2 => br_f h0 (br_t h1 (br_f (nI_nlt (b := 8) h2 (by omega)) ⟨rfl, mm_rel h⟩)))
  have hin : vp_in (nI d) 8 := vp_in_nI h2 (by decide)
  refine ⟨hin, nm_e (nm_r (nI_1 d) (br_f h0 (br_t h1 (br_t (nI_lt (b := 8) h2 (by decide)) ⟨hin, nm_e (nm_r (nI_1 d) ⟨rfl, mm_rel ?_⟩)⟩))))⟩
  exact ⟨by omega, h.2⟩
theorem i_vc_draft {k : Nat} {u : SX} {v : SY} (I : i_Rel k u v) (hk : k + 4 ≤ 2048) : wpX_draft (fun r => wpY_draft (fun r' => r' = r ∧ i_Rel (k + 4) u v) v) u := by
  obtain ⟨d, c, L, db, S, G, N, B, P, T, R, F, W, nF, nW, H, C, O, Lf, K, r0, r1, r2, r3, r4, rfl, rfl, h⟩ := I
  exact ⟨rfl, mm_rel h⟩
theorem i_vc_messages {k : Nat} {u : SX} {v : SY} (I : i_Rel k u v) (hk : k + 4 ≤ 2048) : wpX_messages (fun r => wpY_messages (fun r' => r' = r ∧ i_Rel (k + 4) u v) v) u := by
  obtain ⟨d, c, L, db, S, G, N, B, P, T, R, F, W, nF, nW, H, C, O, Lf, K, r0, r1, r2, r3, r4, rfl, rfl, h⟩ := I
  exact ⟨rfl, mm_rel h⟩
def mm_cp (db : Nat → Int32) (c : Nat) : Nat → Nat → (Nat → Int32) → (Nat → Int32)
  | 0, _, B => B
  | k + 1, i, B => mm_cp db c k (i + 1) (upd B (c * 8 + i) (db i))
section
variable {d c : Nat} {L db S G N B P T R F W nF nW H C O Lf K r0 r1 r2 r3 r4 : Nat → Int32}
theorem mm_x_post {po : Int32 → SX → Prop} (hd : d ≤ 8) (hc : c < 16) : ∀ (k i : Nat) (B : Nat → Int32), i + k = d → po (nI (c + 1)) (0, nI (c + 1), L, db, S, G, N, mm_cp db c k i B, upd P c 0, upd T c 0, upd R c 0, F, W, nF, nW, H, C, O, Lf, K, r0, r1, r2, r3, r4) → wX_post_54 po (nI c) (nI d) (nI c) (k + 1) (nI i) L db S G N B P T R F W nF nW H C O Lf K r0 r1 r2 r3 r4 := by
  intro k
  induction k with
  | zero =>
    intro i B hi hp
    have : i = d := by omega
    subst this
    have hin : vp_in (nI c) 16 := vp_in_nI hc (by decide)
    refine br_t (nI_le (Nat.le_refl i) (by omega)) ⟨hin, nm_e ⟨hin, nm_e ⟨hin, nm_e (nm_r (nI_1 c) ?_)⟩⟩⟩
    rw [nI_clamp (n := c) (by omega), mm_bl0]
    exact hp
  | succ k ih =>
    intro i B hi hp
    refine br_f (nI_ge (by omega) (by omega)) ⟨vp_in_nI (by omega) (by decide), pk_in (c * 8 + i) 128 (by omega) (mm_i8 c i), nm_e (nm_r (nI_1 i) ?_)⟩
    rw [pk_cl (c * 8 + i) (mm_i8 c i), nI_clamp (n := i) (by omega)]
    exact ih (i + 1) _ (by omega) hp
theorem mm_y_post {po : Int32 → SY → Prop} (hd : d ≤ 8) (hc : c < 16) : ∀ (k i : Nat) (B : Nat → Int32), i + k = d → po (nI (c + 1)) (0, nI (c + 1), db, L, S, G, N, mm_cp db c k i B, T) → wY_post_68 po (nI d) (nI c) (k + 1) (nI i) db L S G N B T := by
  intro k
  induction k with
  | zero =>
    intro i B hi hp
    have : i = d := by omega
    subst this
    exact br_t (nI_le (Nat.le_refl i) (by omega)) (nm_r (nI_1 c) hp)
  | succ k ih =>
    intro i B hi hp
    refine br_f (nI_ge (by omega) (by omega)) ⟨vp_in_nI (by omega) (by decide), pk_in (c * 8 + i) 128 (by omega) (mm_8i c i), nm_e (nm_r (nI_1 i) ?_)⟩
    rw [pk_cl (c * 8 + i) (mm_8i c i), nI_clamp (n := i) (by omega)]
    exact ih (i + 1) _ (by omega) hp
end
theorem i_vc_post {k : Nat} {u : SX} {v : SY} (I : i_Rel k u v) (hk : k + 4 ≤ 2048) (v1 : Int32) (v2 : Int32) : wpX_post (fun r u' => wpY_post (fun r' v' => r' = r ∧ i_Rel (k + 4) u' v') v v1 v2) u v1 v2 := by
  obtain ⟨d, c, L, db, S, G, N, B, P, T, R, F, W, nF, nW, H, C, O, Lf, K, r0, r1, r2, r3, r4, rfl, rfl, h⟩ := I
  have ⟨hd, hc, hL, hm, hC, hr, hF, hO, hK⟩ := h
  unfold wpX_post wpY_post
  dsimp only
  refine mm_x_two (fun a b ha hb hab ea eb => br_f (by decide) ?_) (fun hn => br_t rfl (mm_y_two (fun a b ha hb hab ea eb => absurd ⟨a, b, ha, hb, hab, ea, eb⟩ hn) (fun _ => br_t rfl ⟨rfl, mm_rel h⟩)))
  have hY2 : mm_st2 v1 v2 := ⟨a, b, ha, hb, hab, ea, eb⟩
  refine pk_lt c 16 (fun h16 => ?_) (fun h16 => mm_y_two (fun _ _ _ _ _ _ _ => br_f (by decide) (br_f (nI_nlt (b := 16) h16 (by omega)) ⟨rfl, mm_rel h⟩)) (fun z => absurd hY2 z))
  have hin : vp_in (nI c) 16 := vp_in_nI h16 (by decide)
  refine ⟨hin, nm_e ⟨hin, nm_e ⟨hin, nm_e ⟨d + 1, ?_⟩⟩⟩⟩
  rw [nI_clamp (n := c) (by omega)]
  refine mm_x_post hd h16 d 0 B (by omega) (mm_y_two (fun _ _ _ _ _ _ _ => br_f (by decide) (br_t (nI_lt (b := 16) h16 (by decide)) ⟨hin, nm_e ⟨hin, nm_e ⟨hin, nm_e ⟨hin, nm_e ⟨d + 1, ?_⟩⟩⟩⟩⟩)) (fun z => absurd hY2 z))
  rw [mm_bl0]
  refine mm_y_post hd h16 d 0 B (by omega) ⟨rfl, mm_rel (d := 0) ?_⟩
  refine ⟨by omega, by omega, hL, fun m hm1 => ?_, hC, hr, hF, hO, hK⟩
  by_cases e : m = c
  · subst e
    rw [pk_us, pk_us, pk_us, pk_us, pk_us, pk_us, ea, eb]
    refine ⟨?_, Or.inl rfl, fun _ => ⟨rfl, rfl⟩⟩
    rw [mm_nI (by omega), mm_nI (by omega), mm_nI (by omega)]
    exact ⟨rfl, ha, rfl, hb, hab, rfl, by omega⟩
  · rw [pk_un e, pk_un e, pk_un e, pk_un e, pk_un e, pk_un e]
    exact hm m (by omega)
theorem mm_cb {L : Nat → Int32} {a b x y : Nat} (hb : b < 32) (hy : y < 32) : bt (upd L a (L a &&& (((1 : Int32) <<< (nI b &&& 31)) ^^^ (-1))) x) y = true ↔ (bt (L x) y = true ∧ ¬ (x = a ∧ y = b)) := by
  by_cases h : x = a
  · subst h
    rw [pk_us, b_and, b_xor, b_m1 y hy, Bool.and_eq_true, Bool.xor_true, Bool.not_eq_true', ← Bool.not_eq_true, mm_one hb]
    simp
  · rw [pk_un h]
    simp [h]
theorem mm_LK_up {L : Nat → Int32} {a b : Nat} (hL : mm_LK L) (ha : a < 8) (hb : b < 8) (hab : a ≠ b) : mm_LK (upd (upd L a (L a ||| ((1 : Int32) <<< (nI b &&& 31)))) b ((upd L a (L a ||| ((1 : Int32) <<< (nI b &&& 31)))) b ||| ((1 : Int32) <<< (nI a &&& 31)))) := by
  intro x hx y hy
  rw [mm_ob (by omega), mm_ob (by omega)] at hy
  rw [mm_ob (by omega), mm_ob (by omega)]
  rcases hy with (z | ⟨z1, z2⟩) | ⟨z1, z2⟩
  · have := hL x hx y z
    exact ⟨this.1, this.2.1, Or.inl (Or.inl this.2.2)⟩
  · subst z1; subst z2
    exact ⟨hb, fun z => hab z.symm, Or.inr ⟨rfl, rfl⟩⟩
  · subst z1; subst z2
    exact ⟨ha, hab, Or.inl (Or.inr ⟨rfl, rfl⟩)⟩
theorem mm_LK_dn {L : Nat → Int32} {a b : Nat} (hL : mm_LK L) (ha : a < 8) (hb : b < 8) : mm_LK (upd (upd L a (L a &&& (((1 : Int32) <<< (nI b &&& 31)) ^^^ (-1)))) b ((upd L a (L a &&& (((1 : Int32) <<< (nI b &&& 31)) ^^^ (-1)))) b &&& (((1 : Int32) <<< (nI a &&& 31)) ^^^ (-1)))) := by
  intro x hx y hy
  have hy32 : y < 32 := by
    rcases Nat.lt_or_ge y 32 with z | z
    · exact z
    · rw [b_big z] at hy; cases hy
  rw [mm_cb (by omega) hy32, mm_cb (by omega) hy32] at hy
  obtain ⟨⟨z1, z2⟩, z3⟩ := hy
  have := hL x hx y z1
  rw [mm_cb (by omega) (by omega), mm_cb (by omega) (by omega)]
  exact ⟨this.1, this.2.1, ⟨this.2.2, fun z => z3 ⟨z.2, z.1⟩⟩, fun z => z2 ⟨z.2, z.1⟩⟩
theorem i_vc_link {k : Nat} {u : SX} {v : SY} (I : i_Rel k u v) (hk : k + 4 ≤ 2048) (v1 : Int32) (v2 : Int32) (v3 : Int32) : wpX_link (fun r u' => wpY_link (fun r' v' => r' = r ∧ i_Rel (k + 4) u' v') v v1 v2 (lw_bz v3)) u v1 v2 (lw_bz v3) := by
  obtain ⟨d, c, L, db, S, G, N, B, P, T, R, F, W, nF, nW, H, C, O, Lf, K, r0, r1, r2, r3, r4, rfl, rfl, h⟩ := I
  have ⟨hd, hc, hL, hm, hC, hr, hF, hO, hK⟩ := h
  unfold wpX_link wpY_link
  dsimp only
  refine mm_x_two (fun a b ha hb hab ea eb => br_f (by decide) ?_) (fun hn => br_t rfl (mm_y_two (fun a b ha hb hab ea eb => absurd ⟨a, b, ha, hb, hab, ea, eb⟩ hn) (fun _ => br_t rfl ⟨rfl, mm_rel h⟩)))
  have hY2 : mm_st2 v1 v2 := ⟨a, b, ha, hb, hab, ea, eb⟩
  rw [ea, eb] at *
  have hia : vp_in (nI a) 8 := vp_in_nI ha (by decide)
  have hib : vp_in (nI b) 8 := vp_in_nI hb (by decide)
  rw [nI_clamp (n := a) (by omega), nI_clamp (n := b) (by omega)]
  refine br_c (fun e => ⟨hia, hia, nm_e ⟨hib, hib, nm_e (mm_y_two (fun _ _ _ _ _ _ _ => br_f (by decide) (br_t e ⟨hia, ⟨hia, nm_e (br_t e ⟨hib, hib, nm_e ?_⟩)⟩⟩)) (fun z => absurd hY2 z))⟩⟩) (fun e => ⟨hia, hia, nm_e ⟨hib, hib, nm_e (mm_y_two (fun _ _ _ _ _ _ _ => br_f (by decide) (br_f e ⟨hia, ⟨hia, nm_e (br_f e ⟨hib, hib, nm_e ?_⟩)⟩⟩)) (fun z => absurd hY2 z))⟩⟩)
  · rw [nI_clamp (n := a) (by omega), nI_clamp (n := b) (by omega)]
    exact ⟨rfl, mm_rel ⟨hd, hc, mm_LK_dn hL ha hb, hm, hC, hr, hF, hO, hK⟩⟩
  · rw [nI_clamp (n := a) (by omega), nI_clamp (n := b) (by omega)]
    exact ⟨rfl, mm_rel ⟨hd, hc, mm_LK_up hL ha hb hab, hm, hC, hr, hF, hO, hK⟩⟩
theorem i_vc_links {k : Nat} {u : SX} {v : SY} (I : i_Rel k u v) (hk : k + 4 ≤ 2048) (v1 : Int32) : wpX_links (fun r => wpY_links (fun r' => r' = r ∧ i_Rel (k + 4) u v) v v1) u v1 := by
  obtain ⟨d, c, L, db, S, G, N, B, P, T, R, F, W, nF, nW, H, C, O, Lf, K, r0, r1, r2, r3, r4, rfl, rfl, h⟩ := I
  unfold wpX_links wpY_links
  dsimp only
  refine mm_x_st (fun a ha ea => br_f (by decide) ?_) (fun hn => br_t rfl (mm_y_st (fun a ha ea => absurd ⟨a, ha, ea⟩ hn) (fun _ => br_t rfl ⟨rfl, mm_rel h⟩)))
  have hia : vp_in v1 8 := by rw [ea]; exact vp_in_nI ha (by decide)
  exact ⟨hia, mm_y_st (fun _ _ _ => br_f (by decide) ⟨hia, rfl, mm_rel h⟩) (fun z => absurd ⟨a, ha, ea⟩ z)⟩
theorem i_vc_distance {k : Nat} {u : SX} {v : SY} (I : i_Rel k u v) (hk : k + 4 ≤ 2048) (v1 : Int32) (v2 : Int32) : wpX_distance (fun r => wpY_distance (fun r' => r' = r ∧ i_Rel (k + 4) u v) v v1 v2) u v1 v2 := by
  obtain ⟨d, c, L, db, S, G, N, B, P, T, R, F, W, nF, nW, H, C, O, Lf, K, r0, r1, r2, r3, r4, rfl, rfl, h⟩ := I
  by_cases h1 : mm_st v1
  · by_cases h2 : mm_st v2
    · obtain ⟨a, ha, rfl⟩ := h1
      obtain ⟨b, hb, rfl⟩ := h2
      obtain ⟨r, -, hX, hY⟩ := mm_dist (d := nI d) (c := c) (db := db) (S := S) (G := G) (N := N) (B := B) (P := P) (T := T) (R := R) (F := F) (W := W) (nF := nF) (nW := nW) (H := H) (C := C) (O := O) (Lf := Lf) (K := K) (r0 := r0) (r1 := r1) (r2 := r2) (r3 := r3) (r4 := r4) (d' := nI d) h.2.2.1 ha hb
      exact hX _ (hY _ ⟨rfl, mm_rel h⟩)
    · unfold wpX_distance wpY_distance
      dsimp only
      exact mm_x_st (fun _ _ _ => br_f (by decide) (mm_x_st (fun b hb eb => absurd ⟨b, hb, eb⟩ h2) (fun _ => br_t rfl (mm_y_st (fun _ _ _ => br_f (by decide) (mm_y_st (fun b hb eb => absurd ⟨b, hb, eb⟩ h2) (fun _ => br_t rfl ⟨rfl, mm_rel h⟩))) (fun z => absurd h1 z))))) (fun z => absurd h1 z)
  · unfold wpX_distance wpY_distance
    dsimp only
    exact mm_x_st (fun a ha ea => absurd ⟨a, ha, ea⟩ h1) (fun _ => br_t rfl (mm_y_st (fun a ha ea => absurd ⟨a, ha, ea⟩ h1) (fun _ => br_t rfl ⟨rfl, mm_rel h⟩)))
end
section
section
variable {d c : Nat} {L db S G N B P T R F W nF nW H C O Lf K r0 r1 r2 r3 r4 : Nat → Int32} {post : SX → Prop}
theorem mm_x_dst {po : Int32 → SX → Prop} {x1 x2 x3 : Int32} (h0 : po 1 (nI d, nI c, L, db, S, G, N, B, P, T, R, F, W, nF, nW, H, C, O, Lf, K, r0, r1, r2, r3, r4)) (h1 : ∀ i, i < 16 → po 1 (nI d, nI c, L, db, S, G, N, B, P, T, R, F, W, nF, nW, H, C, upd O i x1, upd Lf i x2, upd K i x3, r0, r1, r2, r3, r4)) :
  ∀ k i : Nat, i + k = 16 → wX_disturb_31 po x1 x2 x3 (nI d) (nI c) L db S G N B P T R F W nF nW H C O Lf K r0 r1 r2 r3 r4 (k + 1) (nI i) := by
  intro k
  induction k with
  | zero =>
    intro i hi
    have : i = 16 := by omega
    subst this
    exact br_t (by decide) h0
  | succ k ih =>
    intro i hi
    have hin : vp_in (nI i) 16 := vp_in_nI (by omega) (by decide)
    refine br_f (nI_ge (b := 16) (by omega) (by decide)) ⟨hin, ?_⟩
    rw [nI_clamp (n := i) (by omega)]
    exact br_c (fun _ => ⟨hin, nm_e ⟨hin, nm_e ⟨hin, nm_e (h1 i (by omega))⟩⟩⟩) (fun _ => nm_r (nI_1 i) (ih (i + 1) (by omega)))
end
theorem mm_in20 {x : Int32} {n : Nat} (hn : n < 2 ^ 31) (h0 : ¬ x < 0) (h1 : ¬ nI n < x) : ∃ l, l ≤ n ∧ x = nI l := by
  obtain ⟨j, hj, rfl⟩ := nI_of h0
  rw [nI_ltI hn hj] at h1
  exact ⟨j, by omega, rfl⟩
theorem i_vc_disturb {k : Nat} {u : SX} {v : SY} (I : i_Rel k u v) (hk : k + 4 ≤ 2048) (v1 : Int32) (v2 : Int32) (v3 : Int32) : wpX_disturb (fun r u' => wpY_disturb (fun r' => r' = r ∧ i_Rel (k + 4) u' v) v v1 v2 v3) u v1 v2 v3 := by
  obtain ⟨d, c, L, db, S, G, N, B, P, T, R, F, W, nF, nW, H, C, O, Lf, K, r0, r1, r2, r3, r4, rfl, rfl, h⟩ := I
  have ⟨hd, hc, hL, hm, hC, hr, hF, hO, hK⟩ := h
  unfold wpX_disturb wpY_disturb
  dsimp only
  refine mm_x_st (fun a ha ea => br_f (by decide) ?_) (fun hn => br_t rfl (mm_y_st (fun a ha ea => absurd ⟨a, ha, ea⟩ hn) (fun _ => br_t rfl ⟨rfl, mm_rel h⟩)))
  have hs : mm_st v1 := ⟨a, ha, ea⟩
  refine br_c (fun h0 => mm_y_st (fun _ _ _ => br_f (by decide) (br_t h0 ⟨rfl, mm_rel h⟩)) (fun z => absurd hs z)) (fun h0 => br_c (fun h1 => mm_y_st (fun _ _ _ => br_f (by decide) (br_f h0 (br_t h1 ⟨rfl, mm_rel h⟩))) (fun z => absurd hs z)) (fun h1 => br_c (fun h2 => mm_y_st (fun _ _ _ => br_f (by decide) (br_f h0 (br_f h1 (br_t h2 ⟨rfl, mm_rel h⟩)))) (fun z => absurd hs z)) (fun h2 => br_c (fun h3 => ?_) (fun h3 => mm_y_st (fun _ _ _ => br_f (by decide) (br_f h0 (br_f h1 (br_f h2 (br_t (Int32.not_le.mp h3) ⟨rfl, mm_rel h⟩))))) (fun z => absurd hs z)))))
  have h3' : ¬ (2 : Int32) < v3 := Int32.not_lt.mpr h3
  refine ⟨17, mm_x_dst ?_ (fun i hi => ?_) 16 0 rfl⟩
  · exact mm_y_st (fun _ _ _ => br_f (by decide) (br_f h0 (br_f h1 (br_f h2 (br_f h3' ⟨rfl, mm_rel h⟩))))) (fun z => absurd hs z)
  · obtain ⟨l, hl, el⟩ := mm_in20 (n := 20) (by decide) h0 h1
    obtain ⟨q, hq, eq⟩ := mm_in20 (n := 2) (by decide) h2 h3'
    refine mm_y_st (fun _ _ _ => br_f (by decide) (br_f h0 (br_f h1 (br_f h2 (br_f h3' ⟨rfl, mm_rel ⟨hd, hc, hL, hm, hC, hr, hF, fun j hj => ?_, fun j hj => ?_⟩⟩))))) (fun z => absurd hs z)
    · by_cases e : j = i
      · subst e
        refine Or.inr ⟨a, l, ha, hl, ?_, ?_⟩
        · rw [pk_us]; exact ea
        · rw [pk_us]; exact el
      · unfold mm_or0
        rw [pk_un e, pk_un e]
        exact hO j hj
    · by_cases e : j = i
      · subst e
        rw [pk_us]
        exact ⟨q, hq, eq⟩
      · rw [pk_un e]
        exact hK j hj
section
variable {d : Int32} {c : Nat} {L db S G N B P T R F W nF nW H C O Lf K r0 r1 r2 r3 r4 : Nat → Int32} {post : SX → Prop}
theorem mm_x_fw_l {a : Nat} (ha : a < 8) (F0 W0 : Nat → Int32)
  (hp : ∀ F W : Nat → Int32, (∀ j, ¬ (a * 8 ≤ j ∧ j < a * 8 + 8) → F j = F0 j ∧ W j = W0 j) → (∀ b, b < 8 → F (a * 8 + b) = nI (if a = b then 0 else 8) ∧ W (a * 8 + b) = -1) → post (d, nI c, L, db, S, G, N, B, P, T, R, F, W, nF, nW, H, C, O, Lf, K, r0, r1, r2, r3, r4)) :
  ∀ (k i : Nat) (F W : Nat → Int32), i + k = 8 → (∀ j, ¬ (a * 8 ≤ j ∧ j < a * 8 + i) → F j = F0 j ∧ W j = W0 j) → (∀ b, b < i → F (a * 8 + b) = nI (if a = b then 0 else 8) ∧ W (a * 8 + b) = -1) → wX_forgetWays_2 post (nI a) d (nI c) (k + 1) (nI i) L db S G N B P T R F W nF nW H C O Lf K r0 r1 r2 r3 r4 := by
  intro k
  induction k with
  | zero =>
    intro i F W hi h1 h2
    have : i = 8 := by omega
    subst this
    exact br_t (by decide) (hp F W h1 h2)
  | succ k ih =>
    intro i F W hi h1 h2
    have hin : vp_in (nI a * 8 + nI i) 64 := pk_in (a * 8 + i) 64 (by omega) (mm_i8 a i)
    refine br_f (nI_ge (b := 8) (by omega) (by decide)) (pk_eq a i (fun e => ⟨hin, nm_e ⟨hin, nm_e (nm_r (nI_1 i) ?_)⟩⟩) (fun e => ⟨hin, nm_e ⟨hin, nm_e (nm_r (nI_1 i) ?_)⟩⟩))
    · rw [pk_cl (a * 8 + i) (mm_i8 a i)]
      refine ih (i + 1) _ _ (by omega) (fun j hj => ?_) (fun b hb => ?_)
      · rw [pk_un (by omega), pk_un (by omega)]
        exact h1 j (by omega)
      · by_cases eb : b = i
        · subst eb
          rw [pk_us, pk_us, if_pos e]
          exact ⟨rfl, rfl⟩
        · rw [pk_un (by omega), pk_un (by omega)]
          exact h2 b (by omega)
    · rw [pk_cl (a * 8 + i) (mm_i8 a i)]
      refine ih (i + 1) _ _ (by omega) (fun j hj => ?_) (fun b hb => ?_)
      · rw [pk_un (by omega), pk_un (by omega)]
        exact h1 j (by omega)
      · by_cases eb : b = i
        · subst eb
          rw [pk_us, pk_us, if_neg e]
          exact ⟨rfl, rfl⟩
        · rw [pk_un (by omega), pk_un (by omega)]
          exact h2 b (by omega)
theorem mm_x_fw {a : Nat} (ha : a < 8)
  (hp : ∀ F' W' : Nat → Int32, (∀ j, ¬ (a * 8 ≤ j ∧ j < a * 8 + 8) → F' j = F j ∧ W' j = W j) → (∀ b, b < 8 → F' (a * 8 + b) = nI (if a = b then 0 else 8) ∧ W' (a * 8 + b) = -1) → post (d, nI c, L, db, S, G, N, B, P, T, R, F', W', nF, nW, H, C, O, Lf, K, r0, r1, r2, r3, r4)) : wpX_forgetWays post (d, nI c, L, db, S, G, N, B, P, T, R, F, W, nF, nW, H, C, O, Lf, K, r0, r1, r2, r3, r4) (nI a) :=
  ⟨9, mm_x_fw_l ha F W hp 8 0 F W rfl (fun _ _ => ⟨rfl, rfl⟩) (fun b hb => absurd hb (by omega))⟩
theorem mm_NF1 {a b : Nat} {x y : Int32} (h1 : x = nI (if a = b then 0 else 8)) (h2 : y = -1) : x = nI (mm_n x) ∧ (a = b → mm_n x = 0) ∧ (a ≠ b → 1 ≤ mm_n x ∧ mm_n x ≤ 8) ∧ (y = -1 ∨ ∃ e, e < 8 ∧ y = nI e) := by
  rw [h1, h2]
  by_cases e : a = b
  · rw [if_pos e, mm_nI (by omega)]
    exact ⟨rfl, fun _ => rfl, fun z => absurd e z, Or.inl rfl⟩
  · rw [if_neg e, mm_nI (by omega)]
    exact ⟨rfl, fun z => absurd z e, fun _ => ⟨by omega, by omega⟩, Or.inl rfl⟩
theorem mm_x_fp_l {a : Nat} (hc : c ≤ 16) (ha : a < 8)
  (hp : ∀ P C : Nat → Int32, (∀ h, h < 128 → C h = 0) → (∀ m, m < c → T m = 0 → P m = 0) → post (d, nI c, L, db, S, G, N, B, P, T, R, F, W, nF, nW, H, C, O, Lf, K, r0, r1, r2, r3, r4)) :
  ∀ (k i : Nat) (P C : Nat → Int32), i + k = c → (∀ h, h < 128 → C h = 0) → (∀ m, m < c → T m = 0 → P m = 0) → wX_forgetPieces_2 post (nI a) d (nI c) (k + 1) (nI i) L db S G N B P T R F W nF nW H C O Lf K r0 r1 r2 r3 r4 := by
  intro k
  induction k with
  | zero =>
    intro i P C hi h1 h2
    have : i = c := by omega
    subst this
    exact br_t (nI_le (Nat.le_refl i) (by omega)) (hp P C h1 h2)
  | succ k ih =>
    intro i P C hi h1 h2
    have hin : vp_in (nI i) 16 := vp_in_nI (by omega) (by decide)
    refine br_f (nI_ge (by omega) (by omega)) ⟨pk_in (a * 16 + i) 128 (by omega) (mm_i16 a i), nm_e ⟨hin, ?_⟩⟩
    rw [pk_cl (a * 16 + i) (mm_i16 a i), nI_clamp (n := i) (by omega)]
    have hC' : ∀ h, h < 128 → upd C (a * 16 + i) 0 h = 0 := by
      intro h hh
      by_cases e : h = a * 16 + i
      · rw [e]; exact pk_us
      · rw [pk_un e]; exact h1 h hh
    refine br_c (fun e => ⟨hin, br_c (fun e2 => ⟨hin, nm_e (nm_r (nI_1 i) (ih (i + 1) _ _ (by omega) hC' (fun m hm hT => ?_)))⟩) (fun e2 => nm_r (nI_1 i) (ih (i + 1) _ _ (by omega) hC' h2))⟩) (fun e => nm_r (nI_1 i) (ih (i + 1) _ _ (by omega) hC' h2))
    by_cases em : m = i
    · rw [em]; exact pk_us
    · rw [pk_un em]; exact h2 m hm hT
end
theorem mm_nb1 : narrow .boolean (.int 1) = .int 1 := by decide +kernel
theorem mm_nb0 : narrow .boolean (.int 0) = .int 0 := by decide +kernel
theorem i_vc_forget {k : Nat} {u : SX} {v : SY} (I : i_Rel k u v) (hk : k + 4 ≤ 2048) (v1 : Int32) : wpX_forget (fun r u' => wpY_forget (fun r' => r' = r ∧ i_Rel (k + 4) u' v) v v1) u v1 := by
  obtain ⟨d, c, L, db, S, G, N, B, P, T, R, F, W, nF, nW, H, C, O, Lf, K, r0, r1, r2, r3, r4, rfl, rfl, h⟩ := I
  have ⟨hd, hc, hL, hm, hC, hr, hF, hO, hK⟩ := h
  unfold wpX_forget wpY_forget
  dsimp only
  refine mm_x_st (fun a ha ea => br_f (by decide) ?_) (fun hn => br_t rfl (mm_y_st (fun a ha ea => absurd ⟨a, ha, ea⟩ hn) (fun _ => ⟨mm_nb0, rfl, mm_rel h⟩)))
  have hs : mm_st v1 := ⟨a, ha, ea⟩
  rw [ea]
  have hNF : ∀ F' W' : Nat → Int32, (∀ j, ¬ (a * 8 ≤ j ∧ j < a * 8 + 8) → F' j = F j ∧ W' j = W j) → (∀ b, b < 8 → F' (a * 8 + b) = nI (if a = b then 0 else 8) ∧ W' (a * 8 + b) = -1) → mm_NF F' W' := by
    intro F' W' f1 f2 x b hx hb
    by_cases e : x = a
    · subst e
      exact mm_NF1 (f2 b hb).1 (f2 b hb).2
    · have := f1 (x * 8 + b) (by omega)
      rw [this.1, this.2]
      exact hF x b hx hb
  have hms : ∀ P' : Nat → Int32, (∀ m, m < c → T m = 0 → P' m = 0) → ∀ m, m < c → mm_m1 (S m) (G m) (N m) (P' m) (T m) (R m) := by
    intro P' g2 m hm1
    have := hm m hm1
    exact ⟨this.1, this.2.1, fun hT => ⟨g2 m hm1 hT, (this.2.2 hT).2⟩⟩
  exact mm_x_fw ha (fun F' W' f1 f2 => ⟨c + 1, mm_x_fp_l hc ha (fun P' C' g1 g2 => mm_y_st (fun _ _ _ => ⟨mm_nb1, rfl, mm_rel ⟨hd, hc, hL, hms P' g2, g1, hr, hNF F' W' f1 f2, hO, hK⟩⟩) (fun z => absurd ⟨a, ha, rfl⟩ z)) c 0 P C (by omega) hC (fun m hm1 hT => ((hm m hm1).2.2 hT).1)⟩)
section
variable {d : Int32} {c : Nat} {L db S G N B P T R F W nF nW H C O Lf K r0 r1 r2 r3 r4 : Nat → Int32} {post : SX → Prop}
theorem mm_x_i212 (hp : ∀ O : Nat → Int32, (∀ i, i < 16 → O i = -1) → post (d, nI c, L, db, S, G, N, B, P, T, R, F, W, nF, nW, H, C, O, Lf, K, r0, r1, r2, r3, r4)) : ∀ (k i : Nat) (O : Nat → Int32), i + k = 16 → (∀ j, j < i → O j = -1) → wX_init_212 post d (nI c) (k + 1) (nI i) L db S G N B P T R F W nF nW H C O Lf K r0 r1 r2 r3 r4 := by
  intro k
  induction k with
  | zero =>
    intro i O hi h1
    have : i = 16 := by omega
    subst this
    exact br_t (by decide) (hp O h1)
  | succ k ih =>
    intro i O hi h1
    refine br_f (nI_ge (b := 16) (by omega) (by decide)) ⟨vp_in_nI (by omega) (by decide), nm_e (nm_r (nI_1 i) ?_)⟩
    rw [nI_clamp (n := i) (by omega)]
    refine ih (i + 1) _ (by omega) (fun j hj => ?_)
    by_cases e : j = i
    · rw [e]; exact pk_us
    · rw [pk_un e]; exact h1 j (by omega)
theorem mm_x_i193 (hp : ∀ F W O : Nat → Int32, (∀ a b, a < 8 → b < 8 → F (a * 8 + b) = nI (if a = b then 0 else 8) ∧ W (a * 8 + b) = -1) → (∀ i, i < 16 → O i = -1) → post (d, nI c, L, db, S, G, N, B, P, T, R, F, W, nF, nW, H, C, O, Lf, K, r0, r1, r2, r3, r4)) :
  ∀ (k i : Nat) (F W : Nat → Int32), i + k = 8 → (∀ a b, a < i → b < 8 → F (a * 8 + b) = nI (if a = b then 0 else 8) ∧ W (a * 8 + b) = -1) → wX_init_193 post (k + 1) (nI i) d (nI c) L db S G N B P T R F W nF nW H C O Lf K r0 r1 r2 r3 r4 := by
  intro k
  induction k with
  | zero =>
    intro i F W hi h1
    have : i = 8 := by omega
    subst this
    exact br_t (by decide) ⟨17, mm_x_i212 (fun O z => hp F W O h1 z) 16 0 O rfl (fun j hj => absurd hj (by omega))⟩
  | succ k ih =>
    intro i F W hi h1
    refine br_f (nI_ge (b := 8) (by omega) (by decide)) (mm_x_fw (by omega) (fun F' W' f1 f2 => nm_r (nI_1 i) (ih (i + 1) F' W' (by omega) (fun a b ha hb => ?_))))
    by_cases e : a = i
    · subst e; exact f2 b hb
    · have := f1 (a * 8 + b) (by omega)
      rw [this.1, this.2]
      exact h1 a b (by omega) hb
end
theorem i_vc0 : wpX_init (fun u => wpY_init (fun v => i_Rel 0 u v)) := by
  refine ⟨9, mm_x_i193 (d := nI 0) (c := 0) (post := fun u => wpY_init (fun v => i_Rel 0 u v)) ?_ 8 0 (fun _ => 0) (fun _ => 0) rfl (fun a b ha => absurd ha (by omega))⟩
  intro F W O h1 h2
  refine mm_rel (k := 0) (d := 0) (c := 0) ⟨by omega, by omega, fun a ha b hb => ?_, fun m hm => absurd hm (by omega), fun _ _ => rfl, fun _ _ => rfl, fun a b ha hb => mm_NF1 (h1 a b ha hb).1 (h1 a b ha hb).2, fun i hi => Or.inl (h2 i hi), fun i hi => ⟨0, by omega, rfl⟩⟩
  rw [b_0] at hb
  cases hb
end
section
def mm_cnt (S G T : Nat → Int32) (x y z : Int32) : Nat → Nat
  | 0 => 0
  | k + 1 => mm_cnt S G T x y z k + (if S k = x ∧ G k = y ∧ T k = z then 1 else 0)
theorem mm_cnt_p {S G T : Nat → Int32} {x y z : Int32} {k : Nat} (h : S k = x ∧ G k = y ∧ T k = z) : mm_cnt S G T x y z (k + 1) = mm_cnt S G T x y z k + 1 := by
  show mm_cnt S G T x y z k + (if S k = x ∧ G k = y ∧ T k = z then 1 else 0) = _
  rw [if_pos h]
theorem mm_cnt_n {S G T : Nat → Int32} {x y z : Int32} {k : Nat} (h : ¬ (S k = x ∧ G k = y ∧ T k = z)) : mm_cnt S G T x y z (k + 1) = mm_cnt S G T x y z k := by
  show mm_cnt S G T x y z k + (if S k = x ∧ G k = y ∧ T k = z then 1 else 0) = _
  rw [if_neg h, Nat.add_zero]
section
variable {d : Int32} {c : Nat} {L db S G N B P T R F W nF nW H C O Lf K r0 r1 r2 r3 r4 : Nat → Int32} {post : SX → Prop}
theorem mm_x_cnt_l {po : Int32 → Prop} {x y z : Int32} (hc : c ≤ 16) (hp : po (nI (mm_cnt S G T x y z c))) :
  ∀ k i : Nat, i + k = c → wX_count_6 po x y z d (nI c) L db S G N B P T R F W nF nW H C O Lf K r0 r1 r2 r3 r4 (k + 1) (nI (mm_cnt S G T x y z i)) (nI i) := by
  intro k
  induction k with
  | zero =>
    intro i hi
    have : i = c := by omega
    subst this
    exact br_t (nI_le (Nat.le_refl i) (by omega)) hp
  | succ k ih =>
    intro i hi
    refine br_f (nI_ge (by omega) (by omega)) ⟨vp_in_nI (by omega) (by decide), ?_⟩
    rw [nI_clamp (n := i) (by omega)]
    have h := ih (i + 1) (by omega)
    refine br_c (fun e => mm_w_isFor (by omega) (fun e1 e2 => br_f (by decide) (nm_r (nI_1 _) (nm_r (nI_1 i) ?_))) (fun en => br_t rfl (nm_r (nI_1 i) ?_))) (fun e => nm_r (nI_1 i) ?_)
    · rw [mm_cnt_p ⟨e1, e2, e⟩] at h; exact h
    · rw [mm_cnt_n (fun q => en ⟨q.1, q.2.1⟩)] at h; exact h
    · rw [mm_cnt_n (fun q => e q.2.2)] at h; exact h
theorem mm_y_cnt_l {po : Int32 → Prop} {x y z : Int32} (hc : c ≤ 16) (h1 : mm_st x → mm_st y → po (nI (mm_cnt S G T x y z c))) (h0 : ¬ (mm_st x ∧ mm_st y) → po (-1)) :
  ∀ k i : Nat, i + k = c → wY_number_6 po x y z d (nI c) db L S G N B T (k + 1) (nI (mm_cnt S G T x y z i)) (nI i) := by
  intro k
  induction k with
  | zero =>
    intro i hi
    have : i = c := by omega
    subst this
    exact br_t (nI_le (Nat.le_refl i) (by omega)) (mm_y_st (fun a ha ea => br_f (by decide) (mm_y_st (fun b hb eb => br_f (by decide) (h1 ⟨a, ha, ea⟩ ⟨b, hb, eb⟩)) (fun hn => br_t rfl (h0 (fun q => hn q.2))))) (fun hn => br_t rfl (h0 (fun q => hn q.1))))
  | succ k ih =>
    intro i hi
    have hin : vp_in (nI i) 16 := vp_in_nI (by omega) (by decide)
    refine br_f (nI_ge (by omega) (by omega)) ⟨hin, ?_⟩
    rw [nI_clamp (n := i) (by omega)]
    have h := ih (i + 1) (by omega)
    refine br_c (fun e => ⟨hin, br_c (fun e1 => ⟨hin, br_c (fun e2 => nm_r (nI_1 _) (nm_r (nI_1 i) ?_)) (fun e2 => nm_r (nI_1 i) ?_)⟩) (fun e1 => nm_r (nI_1 i) ?_)⟩) (fun e => nm_r (nI_1 i) ?_)
    · rw [mm_cnt_p ⟨e, e1, e2⟩] at h; exact h
    · rw [mm_cnt_n (fun q => e2 q.2.2)] at h; exact h
    · rw [mm_cnt_n (fun q => e1 q.2.1)] at h; exact h
    · rw [mm_cnt_n (fun q => e q.1)] at h; exact h
theorem mm_find_l {x y z : Int32} (hc : c ≤ 16) :
  ∀ (k i : Nat) (w : Int32), i + k = c → ∃ r, (r = -1 ∨ ∃ m, m < c ∧ r = nI m) ∧ (∀ po : Int32 → Prop, po r → wX_find_6 po x y z d (nI c) L db S G N B P T R F W nF nW H C O Lf K r0 r1 r2 r3 r4 (k + 1) w (nI i)) ∧ (∀ po : Int32 → Prop, po r → wY_find_6 po x y z d (nI c) db L S G N B T (k + 1) w (nI i)) := by
  intro k
  induction k with
  | zero =>
    intro i w hi
    have : i = c := by omega
    subst this
    exact ⟨-1, Or.inl rfl, fun po hp => br_t (nI_le (Nat.le_refl i) (by omega)) hp, fun po hp => br_t (nI_le (Nat.le_refl i) (by omega)) hp⟩
  | succ k ih =>
    intro i w hi
    have hin : vp_in (nI i) 16 := vp_in_nI (by omega) (by decide)
    have hge : ¬ nI c ≤ nI i := nI_ge (by omega) (by omega)
    have hcl : (nI i).toNatClampNeg = i := nI_clamp (by omega)
    by_cases e : T i = 0
    · obtain ⟨r, h1, h2, h3⟩ := ih (i + 1) w (by omega)
      refine ⟨r, h1, fun po hp => br_f hge ⟨hin, ?_⟩, fun po hp => br_f hge ⟨hin, ?_⟩⟩
      · rw [hcl]; exact br_t e (nm_r (nI_1 i) (h2 po hp))
      · rw [hcl]; exact br_c (fun _ => ⟨hin, br_c (fun _ => ⟨hin, br_t e (nm_r (nI_1 i) (h3 po hp))⟩) (fun _ => nm_r (nI_1 i) (h3 po hp))⟩) (fun _ => nm_r (nI_1 i) (h3 po hp))
    · by_cases e2 : S i = x ∧ G i = y
      · by_cases e3 : w = z
        · refine ⟨nI i, Or.inr ⟨i, by omega, rfl⟩, fun po hp => br_f hge ⟨hin, ?_⟩, fun po hp => br_f hge ⟨hin, ?_⟩⟩
          · rw [hcl]; exact br_f e (mm_w_isFor (by omega) (fun _ _ => br_f (by decide) (br_t e3 hp)) (fun q => absurd e2 q))
          · rw [hcl]; exact br_t e2.1 ⟨hin, br_t e2.2 ⟨hin, br_f e (br_t e3 hp)⟩⟩
        · obtain ⟨r, h1, h2, h3⟩ := ih (i + 1) (w + 1) (by omega)
          refine ⟨r, h1, fun po hp => br_f hge ⟨hin, ?_⟩, fun po hp => br_f hge ⟨hin, ?_⟩⟩
          · rw [hcl]; exact br_f e (mm_w_isFor (by omega) (fun _ _ => br_f (by decide) (br_f e3 (nm_e (nm_r (nI_1 i) (h2 po hp))))) (fun q => absurd e2 q))
          · rw [hcl]; exact br_t e2.1 ⟨hin, br_t e2.2 ⟨hin, br_f e (br_f e3 (nm_e (nm_r (nI_1 i) (h3 po hp))))⟩⟩
      · obtain ⟨r, h1, h2, h3⟩ := ih (i + 1) w (by omega)
        refine ⟨r, h1, fun po hp => br_f hge ⟨hin, ?_⟩, fun po hp => br_f hge ⟨hin, ?_⟩⟩
        · rw [hcl]; exact br_f e (mm_w_isFor (by omega) (fun q1 q2 => absurd ⟨q1, q2⟩ e2) (fun _ => br_t rfl (nm_r (nI_1 i) (h2 po hp))))
        · rw [hcl]; exact br_c (fun q1 => ⟨hin, br_c (fun q2 => absurd ⟨q1, q2⟩ e2) (fun _ => nm_r (nI_1 i) (h3 po hp))⟩) (fun _ => nm_r (nI_1 i) (h3 po hp))
theorem mm_find {x y z : Int32} (hc : c ≤ 16) : ∃ r, (r = -1 ∨ ∃ m, m < c ∧ r = nI m) ∧ (∀ po : Int32 → Prop, po r → wpX_find po (d, nI c, L, db, S, G, N, B, P, T, R, F, W, nF, nW, H, C, O, Lf, K, r0, r1, r2, r3, r4) x y z) ∧ (∀ po : Int32 → Prop, po r → wpY_find po (d, nI c, db, L, S, G, N, B, T) x y z) := by
  obtain ⟨r, h1, h2, h3⟩ := mm_find_l (d := d) (c := c) (L := L) (db := db) (S := S) (G := G) (N := N) (B := B) (P := P) (T := T) (R := R) (F := F) (W := W) (nF := nF) (nW := nW) (H := H) (C := C) (O := O) (Lf := Lf) (K := K) (r0 := r0) (r1 := r1) (r2 := r2) (r3 := r3) (r4 := r4) (x := x) (y := y) (z := z) hc c 0 0 (by omega)
  exact ⟨r, h1, fun po hp => ⟨c + 1, h2 po hp⟩, fun po hp => ⟨c + 1, h3 po hp⟩⟩
end
theorem i_vc_waiting {k : Nat} {u : SX} {v : SY} (I : i_Rel k u v) (hk : k + 4 ≤ 2048) (v1 : Int32) (v2 : Int32) : wpX_waiting (fun r => wpY_waiting (fun r' => r' = r ∧ i_Rel (k + 4) u v) v v1 v2) u v1 v2 := by
  obtain ⟨d, c, L, db, S, G, N, B, P, T, R, F, W, nF, nW, H, C, O, Lf, K, r0, r1, r2, r3, r4, rfl, rfl, h⟩ := I
  have hc := h.2.1
  unfold wpX_waiting wpY_waiting
  dsimp only
  refine mm_x_st (fun a ha ea => br_f (by decide) (mm_x_st (fun b hb eb => br_f (by decide) ⟨c + 1, mm_x_cnt_l hc ⟨c + 1, mm_y_cnt_l hc (fun _ _ => ⟨rfl, mm_rel h⟩) (fun z => absurd ⟨⟨a, ha, ea⟩, ⟨b, hb, eb⟩⟩ z) c 0 (by omega)⟩ c 0 (by omega)⟩) (fun hn => br_t rfl ⟨c + 1, mm_y_cnt_l hc (fun _ z => absurd z hn) (fun _ => ⟨rfl, mm_rel h⟩) c 0 (by omega)⟩))) (fun hn => br_t rfl ⟨c + 1, mm_y_cnt_l hc (fun z _ => absurd z hn) (fun _ => ⟨rfl, mm_rel h⟩) c 0 (by omega)⟩)
theorem i_vc_arrived {k : Nat} {u : SX} {v : SY} (I : i_Rel k u v) (hk : k + 4 ≤ 2048) (v1 : Int32) (v2 : Int32) : wpX_arrived (fun r => wpY_arrived (fun r' => r' = r ∧ i_Rel (k + 4) u v) v v1 v2) u v1 v2 := by
  obtain ⟨d, c, L, db, S, G, N, B, P, T, R, F, W, nF, nW, H, C, O, Lf, K, r0, r1, r2, r3, r4, rfl, rfl, h⟩ := I
  have hc := h.2.1
  unfold wpX_arrived wpY_arrived
  dsimp only
  refine mm_x_st (fun a ha ea => br_f (by decide) (mm_x_st (fun b hb eb => br_f (by decide) ⟨c + 1, mm_x_cnt_l hc ⟨c + 1, mm_y_cnt_l hc (fun _ _ => ⟨rfl, mm_rel h⟩) (fun z => absurd ⟨⟨a, ha, ea⟩, ⟨b, hb, eb⟩⟩ z) c 0 (by omega)⟩ c 0 (by omega)⟩) (fun hn => br_t rfl ⟨c + 1, mm_y_cnt_l hc (fun _ z => absurd z hn) (fun _ => ⟨rfl, mm_rel h⟩) c 0 (by omega)⟩))) (fun hn => br_t rfl ⟨c + 1, mm_y_cnt_l hc (fun z _ => absurd z hn) (fun _ => ⟨rfl, mm_rel h⟩) c 0 (by omega)⟩)
theorem mm_m1lt : ¬ (0 : Int32) ≤ -1 := by decide
theorem i_vc_length {k : Nat} {u : SX} {v : SY} (I : i_Rel k u v) (hk : k + 4 ≤ 2048) (v1 : Int32) (v2 : Int32) (v3 : Int32) : wpX_length (fun r => wpY_length (fun r' => r' = r ∧ i_Rel (k + 4) u v) v v1 v2 v3) u v1 v2 v3 := by
  obtain ⟨d, c, L, db, S, G, N, B, P, T, R, F, W, nF, nW, H, C, O, Lf, K, r0, r1, r2, r3, r4, rfl, rfl, h⟩ := I
  have hc := h.2.1
  unfold wpX_length wpY_length
  dsimp only
  obtain ⟨r, h1, h2, h3⟩ := mm_find (d := nI d) (c := c) (L := L) (db := db) (S := S) (G := G) (N := N) (B := B) (P := P) (T := T) (R := R) (F := F) (W := W) (nF := nF) (nW := nW) (H := H) (C := C) (O := O) (Lf := Lf) (K := K) (r0 := r0) (r1 := r1) (r2 := r2) (r3 := r3) (r4 := r4) (x := v1) (y := v2) (z := v3) hc
  refine h2 _ ?_
  rcases h1 with rfl | ⟨m, hm, rfl⟩
  · exact br_t rfl (h3 _ (br_f mm_m1lt ⟨rfl, mm_rel h⟩))
  · have hin : vp_in (nI m) 16 := vp_in_nI (by omega) (by decide)
    exact br_f (mm_nm1 (by omega)) ⟨hin, h3 _ (br_t (nI_pos' (by omega)) ⟨hin, rfl, mm_rel h⟩)⟩
theorem i_vc_byteAt {k : Nat} {u : SX} {v : SY} (I : i_Rel k u v) (hk : k + 4 ≤ 2048) (v1 : Int32) (v2 : Int32) (v3 : Int32) : wpX_byteAt (fun r => wpY_byteAt (fun r' => r' = r ∧ i_Rel (k + 4) u v) v v1 v2 v3) u v1 v2 v3 := by
  obtain ⟨d, c, L, db, S, G, N, B, P, T, R, F, W, nF, nW, H, C, O, Lf, K, r0, r1, r2, r3, r4, rfl, rfl, h⟩ := I
  have hc := h.2.1
  unfold wpX_byteAt wpY_byteAt
  dsimp only
  rcases pk_ix v1 (n := 64) (by decide) with h0 | h0 | ⟨j, hj, rfl⟩
  · exact br_t h0 (br_t h0 (br_t mm_neg ⟨rfl, mm_rel h⟩))
  · have hn : ¬ v1 < 0 := fun z => absurd (Int32.lt_of_le_of_lt h0 z) (by decide)
    have hn2 : ¬ v1 ≤ 63 := fun z => absurd (Int32.le_trans h0 z) (by decide)
    exact br_f hn (br_f (Int32.not_lt.mpr h0) (br_f hn (br_f hn2 (br_t mm_neg ⟨rfl, mm_rel h⟩))))
  · have hn : ¬ nI j < 0 := nI_pos (by omega)
    have e1 : nI j / 8 = nI (j / 8) := by rw [mm_8, pk_div (by omega) (by omega) (by omega)]
    have e2 : nI j - nI j / 8 * 8 = nI (j % 8) := by rw [mm_8, pk_rem (by omega) (by omega) (by omega)]
    rw [e2, e1]
    obtain ⟨r, h1, h2, h3⟩ := mm_find (d := nI d) (c := c) (L := L) (db := db) (S := S) (G := G) (N := N) (B := B) (P := P) (T := T) (R := R) (F := F) (W := W) (nF := nF) (nW := nW) (H := H) (C := C) (O := O) (Lf := Lf) (K := K) (r0 := r0) (r1 := r1) (r2 := r2) (r3 := r3) (r4 := r4) (x := nI (j % 8)) (y := nI (j / 8)) (z := v2) hc
    refine br_f hn (br_t (nI_lt (b := 64) hj (by decide)) ⟨by decide, by decide, h2 _ ?_⟩)
    have hY : ∀ rr, wY_byteAt_27 (fun r' => r' = rr ∧ i_Rel (k + 4) (nI d, nI c, L, db, S, G, N, B, P, T, R, F, W, nF, nW, H, C, O, Lf, K, r0, r1, r2, r3, r4) (nI d, nI c, db, L, S, G, N, B, T)) v3 r (nI d) (nI c) db L S G N B T → ((nI j < 0 → wY_byteAt_10 (fun r' => r' = rr ∧ i_Rel (k + 4) (nI d, nI c, L, db, S, G, N, B, P, T, R, F, W, nF, nW, H, C, O, Lf, K, r0, r1, r2, r3, r4) (nI d, nI c, db, L, S, G, N, B, T)) v3 (nI d) (nI c) db L S G N B T) ∧ (¬ nI j < 0 → ((nI j ≤ 63 → (¬ (8 : Int32) = 0 ∧ (¬ (8 : Int32) = 0 ∧ (wpY_find (fun r_10 => (wY_byteAt_27 (fun r' => r' = rr ∧ i_Rel (k + 4) (nI d, nI c, L, db, S, G, N, B, P, T, R, F, W, nF, nW, H, C, O, Lf, K, r0, r1, r2, r3, r4) (nI d, nI c, db, L, S, G, N, B, T)) v3 r_10 (nI d) (nI c) db L S G N B T)) (nI d, nI c, db, L, S, G, N, B, T) (nI (j % 8)) (nI (j / 8)) v2)))) ∧ (¬ nI j ≤ 63 → wY_byteAt_10 (fun r' => r' = rr ∧ i_Rel (k + 4) (nI d, nI c, L, db, S, G, N, B, P, T, R, F, W, nF, nW, H, C, O, Lf, K, r0, r1, r2, r3, r4) (nI d, nI c, db, L, S, G, N, B, T)) v3 (nI d) (nI c) db L S G N B T)))) := by
      intro rr q
      exact br_f hn (br_t (nI_le (b := 63) (by omega) (by decide)) ⟨by decide, by decide, h3 _ q⟩)
    rcases h1 with rfl | ⟨m, hm, rfl⟩
    · exact br_t rfl (hY _ (br_t mm_neg ⟨rfl, mm_rel h⟩))
    · have hin : vp_in (nI m) 16 := vp_in_nI (by omega) (by decide)
      have hmn : ¬ nI m < 0 := nI_pos (by omega)
      refine br_f (mm_nm1 (by omega)) (br_c (fun q0 => hY _ (br_f hmn (br_t q0 ⟨rfl, mm_rel h⟩))) (fun q0 => ⟨hin, ?_⟩))
      obtain ⟨l, hl, rfl⟩ := nI_of q0
      obtain ⟨⟨-, -, -, -, -, eN, hN⟩, -⟩ := h.2.2.2.1 m hm
      rw [nI_clamp (n := m) (by omega)]
      refine br_c (fun q1 => ?_) (fun q1 => hY _ (br_f hmn (br_f q0 ⟨hin, br_f (by rw [nI_clamp (n := m) (by omega)]; exact q1) ⟨rfl, mm_rel h⟩⟩)))
      have hl9 : l < 8 := by
        have q2 := q1
        rw [eN, nI_ltI hl (by omega)] at q2
        omega
      refine ⟨pk_in (m * 8 + l) 128 (by omega) (mm_i8 m l), hY _ (br_f hmn (br_f q0 ⟨hin, br_t (by rw [nI_clamp (n := m) (by omega)]; exact q1) ⟨pk_in (m * 8 + l) 128 (by omega) (mm_8i m l), ?_, mm_rel h⟩⟩))⟩
      rw [mm_8i, mm_i8]
end
section
def mm_mv (i : Nat) : Nat → Nat → (Nat → Int32) → (Nat → Int32)
  | 0, _, B => B
  | k + 1, x, B => mm_mv i k (x + 1) (upd B (i * 8 + x) (B ((i + 1) * 8 + x)))
theorem mm_88 (i x : Nat) : 8 * nI i + 8 + nI x = nI ((i + 1) * 8 + x) := by
  rw [mm_8, pk_mul, nI_add, nI_add]
  exact congrArg nI (by omega)
section
variable {d : Int32} {c : Nat} {L db S G N B P T R F W nF nW H C O Lf K r0 r1 r2 r3 r4 : Nat → Int32} {post : SX → Prop}
theorem mm_x_mv {i : Nat} (hi : i + 1 < 16) : ∀ (k x : Nat) (B : Nat → Int32), x + k = 8 → post (d, nI c, L, db, S, G, N, mm_mv i k x B, P, T, R, F, W, nF, nW, H, C, O, Lf, K, r0, r1, r2, r3, r4) → wX_moveUp_86 post (nI i) d (nI c) (k + 1) (nI x) L db S G N B P T R F W nF nW H C O Lf K r0 r1 r2 r3 r4 := by
  intro k
  induction k with
  | zero =>
    intro x B hx hp
    have : x = 8 := by omega
    subst this
    exact br_t (by decide) hp
  | succ k ih =>
    intro x B hx hp
    refine br_f (nI_ge (b := 8) (by omega) (by decide)) ?_
    rw [nI_1 i]
    refine ⟨pk_in ((i + 1) * 8 + x) 128 (by omega) (mm_i8 (i + 1) x), pk_in (i * 8 + x) 128 (by omega) (mm_i8 i x), nm_e (nm_r (nI_1 x) ?_)⟩
    rw [pk_cl ((i + 1) * 8 + x) (mm_i8 (i + 1) x), pk_cl (i * 8 + x) (mm_i8 i x)]
    exact ih (x + 1) _ (by omega) hp
theorem mm_x_mu {i : Nat} (hi : i + 1 < 16) (hp : post (d, nI c, L, db, upd S i (S (i + 1)), upd G i (G (i + 1)), upd N i (N (i + 1)), mm_mv i 8 0 B, upd P i (P (i + 1)), upd T i (vp_nar .boolean (T (i + 1))), upd R i (vp_nar .boolean (R (i + 1))), F, W, nF, nW, H, C, O, Lf, K, r0, r1, r2, r3, r4)) : wpX_moveUp post (d, nI c, L, db, S, G, N, B, P, T, R, F, W, nF, nW, H, C, O, Lf, K, r0, r1, r2, r3, r4) (nI i) := by
  unfold wpX_moveUp
  dsimp only
  rw [nI_1 i]
  have h1 : vp_in (nI (i + 1)) 16 := vp_in_nI hi (by decide)
  have h0 : vp_in (nI i) 16 := vp_in_nI (by omega) (by decide)
  rw [nI_clamp (n := i) (by omega), nI_clamp (n := i + 1) (by omega)]
  exact ⟨h1, h0, nm_e ⟨h1, h0, nm_e ⟨h1, h0, nm_e ⟨h1, h0, nm_e ⟨h1, h0, nm_e ⟨h1, h0, nm_e ⟨9, mm_x_mv hi 8 0 B rfl hp⟩⟩⟩⟩⟩⟩⟩
theorem mm_y_mv {po : Int32 → SY → Prop} {J : Int32 → (Nat → Int32) → (Nat → Int32) → (Nat → Int32) → (Nat → Int32) → (Nat → Int32) → (Nat → Int32) → (Nat → Int32) → Prop} {x4 : Int32} {i : Nat} (hi : i + 1 < 16) : ∀ (k x : Nat) (B : Nat → Int32), x + k = 8 → J (nI (i + 1)) db L S G N (mm_mv i k x B) T → wY_take_111 po J x4 (nI i) d (nI c) (k + 1) (nI x) db L S G N B T := by
  intro k
  induction k with
  | zero =>
    intro x B hx hp
    have : x = 8 := by omega
    subst this
    exact br_t (by decide) (nm_r (nI_1 i) hp)
  | succ k ih =>
    intro x B hx hp
    refine br_f (nI_ge (b := 8) (by omega) (by decide)) ⟨pk_in ((i + 1) * 8 + x) 128 (by omega) (mm_88 i x), pk_in (i * 8 + x) 128 (by omega) (mm_8i i x), nm_e (nm_r (nI_1 x) ?_)⟩
    rw [pk_cl ((i + 1) * 8 + x) (mm_88 i x), pk_cl (i * 8 + x) (mm_8i i x)]
    exact ih (x + 1) _ (by omega) hp
theorem mm_m1_up {S G N P T R : Nat → Int32} {n i : Nat} (hi : i + 1 < n) (h : ∀ m, m < n → mm_m1 (S m) (G m) (N m) (P m) (T m) (R m)) : ∀ m, m < n → mm_m1 (upd S i (S (i + 1)) m) (upd G i (G (i + 1)) m) (upd N i (N (i + 1)) m) (upd P i (P (i + 1)) m) (upd T i (vp_nar .boolean (T (i + 1))) m) (upd R i (vp_nar .boolean (R (i + 1))) m) := by
  intro m hm
  by_cases e : m = i
  · subst e
    rw [pk_us, pk_us, pk_us, pk_us, pk_us, pk_us]
    obtain ⟨h1, h2, h3⟩ := h (m + 1) hi
    rcases h2 with z | z
    · have := h3 z
      rw [z, this.1, this.2, mm_bl0]
      exact ⟨h1, Or.inl rfl, fun _ => ⟨rfl, rfl⟩⟩
    · rw [z, mm_bl]
      exact ⟨h1, Or.inr rfl, fun q => absurd q mm_10⟩
  · rw [pk_un e, pk_un e, pk_un e, pk_un e, pk_un e, pk_un e]
    exact h m hm
theorem mm_take_l {x4 : Int32} (hc : c + 1 ≤ 16) : ∀ (k i : Nat) (S G N B P T R : Nat → Int32), i + k = c → (∀ m, m < c + 1 → mm_m1 (S m) (G m) (N m) (P m) (T m) (R m)) →
  ∃ S' G' N' B' P' T' R' : Nat → Int32, (∀ m, m < c + 1 → mm_m1 (S' m) (G' m) (N' m) (P' m) (T' m) (R' m)) ∧ (∀ po : Int32 → SX → Prop, po x4 (d, nI c, L, db, S', G', N', B', P', T', R', F, W, nF, nW, H, C, O, Lf, K, r0, r1, r2, r3, r4) → wX_take_36 po x4 (k + 1) (nI i) d (nI c) L db S G N B P T R F W nF nW H C O Lf K r0 r1 r2 r3 r4) ∧ (∀ po : Int32 → SY → Prop, po x4 (d, nI c, db, L, S', G', N', B', T') → wY_take_35 po x4 d (nI c) (k + 1) (nI i) db L S G N B T) := by
  intro k
  induction k with
  | zero =>
    intro i S G N B P T R hi h
    have : i = c := by omega
    subst this
    exact ⟨S, G, N, B, P, T, R, h, fun po hp => br_t (nI_le (Nat.le_refl i) (by omega)) hp, fun po hp => br_t (nI_le (Nat.le_refl i) (by omega)) hp⟩
  | succ k ih =>
    intro i S G N B P T R hi h
    obtain ⟨S', G', N', B', P', T', R', h1, h2, h3⟩ := ih (i + 1) (upd S i (S (i + 1))) (upd G i (G (i + 1))) (upd N i (N (i + 1))) (mm_mv i 8 0 B) (upd P i (P (i + 1))) (upd T i (vp_nar .boolean (T (i + 1)))) (upd R i (vp_nar .boolean (R (i + 1)))) (by omega) (mm_m1_up (by omega) h)
    have hge : ¬ nI c ≤ nI i := nI_ge (by omega) (by omega)
    refine ⟨S', G', N', B', P', T', R', h1, fun po hp => br_f hge (mm_x_mu (by omega) (nm_r (nI_1 i) (h2 po hp))), fun po hp => br_f hge ?_⟩
    rw [nI_1 i]
    have g1 : vp_in (nI (i + 1)) 16 := vp_in_nI (by omega) (by decide)
    have g0 : vp_in (nI i) 16 := vp_in_nI (by omega) (by decide)
    rw [nI_clamp (n := i) (by omega), nI_clamp (n := i + 1) (by omega)]
    exact ⟨g1, g0, nm_e ⟨g1, g0, nm_e ⟨g1, g0, nm_e ⟨g1, g0, nm_e ⟨9, mm_y_mv (by omega) 8 0 B rfl (h3 po hp)⟩⟩⟩⟩⟩
end
theorem i_vc_take {k : Nat} {u : SX} {v : SY} (I : i_Rel k u v) (hk : k + 4 ≤ 2048) (v1 : Int32) (v2 : Int32) : wpX_take (fun r u' => wpY_take (fun r' v' => r' = r ∧ i_Rel (k + 4) u' v') v v1 v2) u v1 v2 := by
  obtain ⟨d, c, L, db, S, G, N, B, P, T, R, F, W, nF, nW, H, C, O, Lf, K, r0, r1, r2, r3, r4, rfl, rfl, h⟩ := I
  have ⟨hd, hc, hL, hm, hC, hr, hF, hO, hK⟩ := h
  unfold wpX_take wpY_take
  dsimp only
  obtain ⟨r, h1, h2, h3⟩ := mm_find (d := nI d) (c := c) (L := L) (db := db) (S := S) (G := G) (N := N) (B := B) (P := P) (T := T) (R := R) (F := F) (W := W) (nF := nF) (nW := nW) (H := H) (C := C) (O := O) (Lf := Lf) (K := K) (r0 := r0) (r1 := r1) (r2 := r2) (r3 := r3) (r4 := r4) (x := v1) (y := v2) (z := 0) hc
  refine h2 _ ?_
  rcases h1 with rfl | ⟨m, hmc, rfl⟩
  · exact br_t rfl (h3 _ (br_f mm_m1lt ⟨rfl, mm_rel h⟩))
  · have hin : vp_in (nI m) 16 := vp_in_nI (by omega) (by decide)
    have ec : nI c - 1 = nI (c - 1) := pk_sub (b := 1) (by omega)
    obtain ⟨S', G', N', B', P', T', R', g1, g2, g3⟩ := mm_take_l (d := nI d) (c := c - 1) (L := L) (db := db) (F := F) (W := W) (nF := nF) (nW := nW) (H := H) (C := C) (O := O) (Lf := Lf) (K := K) (r0 := r0) (r1 := r1) (r2 := r2) (r3 := r3) (r4 := r4) (x4 := N m) (by omega) (c - 1 - m) m S G N B P T R (by omega) (fun q hq => hm q (by omega))
    rw [nI_clamp (n := m) (by omega)]
    refine br_f (mm_nm1 (by omega)) ⟨hin, nm_e (nm_r ec ⟨c - 1 - m + 1, g2 _ (h3 _ (br_t (nI_pos' (by omega)) ⟨hin, ?_⟩))⟩)⟩
    rw [nI_clamp (n := m) (by omega)]
    exact nm_e (nm_r ec ⟨c - 1 - m + 1, g3 _ ⟨rfl, mm_rel ⟨hd, by omega, hL, fun q hq => g1 q (by omega), hC, hr, hF, hO, hK⟩⟩⟩)
section
variable {d : Int32} {c : Nat} {L db S G N B P T R F W nF nW H C O Lf K r0 r1 r2 r3 r4 : Nat → Int32} {post : SX → Prop}
theorem mm_ready_l (hL : mm_LK L) (hc : c ≤ 16) (hH : mm_HD c S G N) : ∀ (k i : Nat) (w : Int32), i + k = c → ∃ r, (∀ po : Int32 → Prop, po r → wX_ready_4 po d (nI c) L db S G N B P T R F W nF nW H C O Lf K r0 r1 r2 r3 r4 (k + 1) w (nI i)) ∧ (∀ po : Int32 → Prop, po r → wY_ready_4 po d (nI c) db L S G N B T (k + 1) w (nI i)) := by
  intro k
  induction k with
  | zero =>
    intro i w hi
    have : i = c := by omega
    subst this
    exact ⟨w, fun po hp => br_t (nI_le (Nat.le_refl i) (by omega)) hp, fun po hp => br_t (nI_le (Nat.le_refl i) (by omega)) hp⟩
  | succ k ih =>
    intro i w hi
    have hin : vp_in (nI i) 16 := vp_in_nI (by omega) (by decide)
    have hge : ¬ nI c ≤ nI i := nI_ge (by omega) (by omega)
    have hcl : (nI i).toNatClampNeg = i := nI_clamp (by omega)
    obtain ⟨eS, hs, eG, hg, -⟩ := hH i (by omega)
    by_cases e : T i = 0
    · obtain ⟨r, hr, hX, -⟩ := mm_dist (d := d) (c := c) (db := db) (S := S) (G := G) (N := N) (B := B) (P := P) (T := T) (R := R) (F := F) (W := W) (nF := nF) (nW := nW) (H := H) (C := C) (O := O) (Lf := Lf) (K := K) (r0 := r0) (r1 := r1) (r2 := r2) (r3 := r3) (r4 := r4) (d' := d) hL hs hg
      rw [← eS, ← eG] at hX
      rcases hr with ⟨er, hn⟩ | ⟨n, hn8, er, hcn⟩
      · obtain ⟨q, h2, h3⟩ := ih (i + 1) w (by omega)
        refine ⟨q, fun po hp => br_f hge ⟨hin, ?_⟩, fun po hp => br_f hge (mm_y_goes hL hc hH (by omega) (fun _ z => absurd z hn) (fun _ => br_t rfl (nm_r (nI_1 i) (h3 po hp))))⟩
        rw [hcl]
        exact br_t e ⟨hin, hin, hX _ (br_t er (nm_r (nI_1 i) (h2 po hp)))⟩
      · obtain ⟨q, h2, h3⟩ := ih (i + 1) (w + 1) (by omega)
        refine ⟨q, fun po hp => br_f hge ⟨hin, ?_⟩, fun po hp => br_f hge (mm_y_goes hL hc hH (by omega) (fun _ _ => br_f (by decide) (nm_e (nm_r (nI_1 i) (h3 po hp)))) (fun z => absurd ⟨e, hcn⟩ z))⟩
        rw [hcl]
        exact br_t e ⟨hin, hin, hX _ (br_f (by rw [er]; exact mm_nm1 (by omega)) (nm_e (nm_r (nI_1 i) (h2 po hp))))⟩
    · obtain ⟨q, h2, h3⟩ := ih (i + 1) w (by omega)
      refine ⟨q, fun po hp => br_f hge ⟨hin, ?_⟩, fun po hp => br_f hge (mm_y_goes hL hc hH (by omega) (fun z => absurd z e) (fun _ => br_t rfl (nm_r (nI_1 i) (h3 po hp))))⟩
      rw [hcl]
      exact br_f e (nm_r (nI_1 i) (h2 po hp))
end
theorem i_vc_ready {k : Nat} {u : SX} {v : SY} (I : i_Rel k u v) (hk : k + 4 ≤ 2048) : wpX_ready (fun r => wpY_ready (fun r' => r' = r ∧ i_Rel (k + 4) u v) v) u := by
  obtain ⟨d, c, L, db, S, G, N, B, P, T, R, F, W, nF, nW, H, C, O, Lf, K, r0, r1, r2, r3, r4, rfl, rfl, h⟩ := I
  obtain ⟨r, h2, h3⟩ := mm_ready_l (d := nI d) (c := c) (db := db) (S := S) (G := G) (N := N) (B := B) (P := P) (T := T) (R := R) (F := F) (W := W) (nF := nF) (nW := nW) (H := H) (C := C) (O := O) (Lf := Lf) (K := K) (r0 := r0) (r1 := r1) (r2 := r2) (r3 := r3) (r4 := r4) h.2.2.1 h.2.1 (mm_hd h.2.2.2.1) c 0 0 (by omega)
  exact ⟨c + 1, h2 _ ⟨c + 1, h3 _ ⟨rfl, mm_rel h⟩⟩⟩
end
section
section
variable {d : Int32} {c : Nat} {L db S G N B P T R F W nF nW H C O Lf K r0 r1 r2 r3 r4 : Nat → Int32}
theorem mm_cth_up {T : Nat → Int32} {i : Nat} {x : Int32} : mm_cth (upd T i x) i = mm_cth T i := mm_cth_cg i (fun j hj => pk_un (by omega))
theorem mm_cth_0 {T : Nat → Int32} {i : Nat} (h : T i = 0) : mm_cth T (i + 1) = mm_cth T i := by
  show mm_cth T i + (if T i = 0 then 0 else 1) = _
  rw [if_pos h, Nat.add_zero]
theorem mm_cth_1 {T : Nat → Int32} {i : Nat} (h : ¬ T i = 0) : mm_cth T (i + 1) = mm_cth T i + 1 := by
  show mm_cth T i + (if T i = 0 then 0 else 1) = _
  rw [if_neg h]
/-- what the reference's settle makes of here -/
theorem mm_y_set_l {po : Int32 → SY → Prop} (hL : mm_LK L) (hc : c ≤ 16) (hH : mm_HD c S G N) (T0 : Nat → Int32)
  (hp : ∀ (n : Nat) (T : Nat → Int32), (∀ m, c ≤ m → T m = T0 m) → (∀ m, m < c → (T0 m = 0 → mm_cn L (mm_n (S m)) (mm_n (G m)) → T m = 1) ∧ (¬ (T0 m = 0 ∧ mm_cn L (mm_n (S m)) (mm_n (G m))) → T m = T0 m)) → n + mm_cth T0 c = mm_cth T c → po (nI n) (d, nI c, db, L, S, G, N, B, T)) :
  ∀ (k i n : Nat) (T : Nat → Int32), i + k = c → (∀ m, i ≤ m → T m = T0 m) → (∀ m, m < i → (T0 m = 0 → mm_cn L (mm_n (S m)) (mm_n (G m)) → T m = 1) ∧ (¬ (T0 m = 0 ∧ mm_cn L (mm_n (S m)) (mm_n (G m))) → T m = T0 m)) → n + mm_cth T0 i = mm_cth T i → wY_settle_4 po d (nI c) (k + 1) (nI n) (nI i) db L S G N B T := by
  intro k
  induction k with
  | zero =>
    intro i n T hi h1 h2 h3
    have : i = c := by omega
    subst this
    exact br_t (nI_le (Nat.le_refl i) (by omega)) (hp n T h1 h2 h3)
  | succ k ih =>
    intro i n T hi h1 h2 h3
    have hin : vp_in (nI i) 16 := vp_in_nI (by omega) (by decide)
    have e0 := h1 i (Nat.le_refl i)
    refine br_f (nI_ge (by omega) (by omega)) (mm_y_goes hL hc hH (by omega) (fun e hcn => br_f (by decide) ⟨hin, nm_e (nm_r (nI_1 n) (nm_r (nI_1 i) ?_))⟩) (fun hn => br_t rfl (nm_r (nI_1 i) (ih (i + 1) n T (by omega) (fun m hm => h1 m (by omega)) (fun m hm => ?_) ?_))))
    · rw [nI_clamp (n := i) (by omega), mm_bl]
      refine ih (i + 1) (n + 1) _ (by omega) (fun m hm => ?_) (fun m hm => ?_) ?_
      · rw [pk_un (by omega)]; exact h1 m (by omega)
      · by_cases em : m = i
        · subst em
          rw [pk_us]
          refine ⟨fun _ _ => rfl, fun z => absurd ⟨?_, hcn⟩ z⟩
          rw [← e0]; exact e
        · rw [pk_un em]; exact h2 m (by omega)
      · rw [mm_cth_0 (T := T0) (by rw [← e0]; exact e), mm_cth_1 (T := upd T i 1) (by rw [pk_us]; decide), mm_cth_up]
        omega
    · by_cases em : m = i
      · subst em
        rw [e0] at hn
        exact ⟨fun z1 z2 => absurd ⟨z1, z2⟩ hn, fun _ => e0⟩
      · exact h2 m (by omega)
    · by_cases ez : T0 i = 0
      · rw [mm_cth_0 ez, mm_cth_0 (T := T) (by rw [e0]; exact ez)]; exact h3
      · rw [mm_cth_1 ez, mm_cth_1 (T := T) (by rw [e0]; exact ez)]; omega
end
theorem i_vc_settle {k : Nat} {u : SX} {v : SY} (I : i_Rel k u v) (hk : k + 4 ≤ 2048) : wpX_settle (fun r u' => wpY_settle (fun r' v' => r' = r ∧ i_Rel (k + 4) u' v') v) u := by
  obtain ⟨d, c, L, db, S, G, N, B, P, T, R, F, W, nF, nW, H, C, O, Lf, K, r0, r1, r2, r3, r4, rfl, rfl, h⟩ := I
  have ⟨hd, hc, hL, hm, hC, hr, hF, hO, hK⟩ := h
  have hH := mm_hd hm
  have h0 : mm_SI c 0 L S G N T P T R F W C O Lf r0 r1 r2 r3 := by
    refine ⟨⟨fun m hm1 => ⟨(hm m hm1).2.1, id, Or.inl⟩, fun _ _ => rfl⟩, ⟨fun a m p ha hm1 hb => ?_, fun m hm1 hT p hb => ?_, fun m hm1 => ?_⟩, fun i hi => ?_, fun i hi => ⟨0, by omega, hr i hi, Or.inl rfl⟩, hF, fun z => absurd z (by omega), fun z => absurd z (by omega), fun z => absurd z (by omega)⟩
    · rw [hC (a * 16 + m) (by omega), b_0] at hb
      cases hb
    · rw [((hm m hm1).2.2 hT).1, b_0] at hb
      cases hb
    · rcases (hm m hm1).2.1 with z | z
      · exact Or.inl ((hm m hm1).2.2 z).2
      · exact Or.inr z
    · rcases hO i hi with z | ⟨s, l, z1, z2, z3, z4⟩
      · exact Or.inl z
      · exact Or.inr ⟨s, l, z1, z2, z3, z4, fun _ _ => z2⟩
  unfold wpX_settle
  dsimp only
  refine mm_w_cth hc ⟨65, mm_w_rounds (T0 := T) hL hc hH hK ?_ 64 0 P T R F W nF nW H C O Lf r0 r1 r2 r3 r4 rfl h0⟩
  intro P' T' R' F' W' nF' nW' H' C' O' Lf' q0 q1 q2 q3 q4 hS
  obtain ⟨hTI, hM, hO', hT', hF', -, -, hLV⟩ := hS
  refine ⟨c + 1, mm_y_set_l hL hc hH T ?_ c 0 0 T (by omega) (fun _ _ => rfl) (fun m hm1 => absurd hm1 (by omega)) (by
    show 0 + 0 = 0
    rfl)⟩
  intro n T2 y1 y2 y3
  have hcnT : ∀ m, m < c → mm_cn L (mm_n (S m)) (mm_n (G m)) → T' m = 1 := by
    intro m hm1 hcn
    rcases hLV (by omega) m hm1 hcn with z | z
    · exact z
    · omega
  have hTT : T2 = T' := by
    funext m
    rcases Nat.lt_or_ge m c with z | z
    · by_cases e : T m = 0 ∧ mm_cn L (mm_n (S m)) (mm_n (G m))
      · rw [(y2 m z).1 e.1 e.2, hcnT m z e.2]
      · rw [(y2 m z).2 e]
        rcases (hm m z).2.1 with e1 | e1
        · rw [e1]
          rcases (hTI.1 m z).1 with e2 | e2
          · exact e2.symm
          · rcases (hTI.1 m z).2.2 e2 with e3 | e3
            · rw [e1] at e3; cases e3
            · exact absurd ⟨e1, e3⟩ e
        · rw [e1, (hTI.1 m z).2.1 e1]
    · rw [y1 m z, hTI.2 m z]
  subst hTT
  refine ⟨?_, mm_rel ⟨hd, hc, hL, fun m hm1 => ⟨(hm m hm1).1, (hTI.1 m hm1).1, fun z => ⟨?_, ?_⟩⟩, fun q hq => ?_, fun i hi => ?_, hF', fun i hi => ?_, hK⟩⟩
  · have e : nI (mm_cth T2 c) - nI (mm_cth T c) = nI (mm_cth T2 c - mm_cth T c) := pk_sub (by omega)
    rw [e]
    exact congrArg nI (by omega)
  · apply mm_z
    intro p
    apply Bool.eq_false_iff.mpr
    intro hb
    have := hcnT m hm1 (hM.2.1 m hm1 z p hb).2
    rw [z] at this
    cases this
  · rcases hM.2.2 m hm1 with y | y
    · exact y
    · rw [z] at y; cases y
  · apply mm_z
    intro p
    apply Bool.eq_false_iff.mpr
    intro hb
    have eq : q = q / 16 * 16 + q % 16 := by omega
    rw [eq] at hb
    obtain ⟨z1, z2, z3, z4, z5⟩ := hM.1 (q / 16) (q % 16) p (by omega) (by omega) hb
    rcases z3 with ⟨a1, a2, a3⟩ | ⟨a1, a2, a3⟩
    · exact a3 (z4 (by omega) a1)
    · exact a2 (z5 (by omega) a1)
  · obtain ⟨r, z1, z2, z3⟩ := hT' i hi
    rcases z3 with z | z
    · rw [z2, z]; rfl
    · omega
  · rcases hO' i hi with z | ⟨s, l, z1, z2, z3, z4, _⟩
    · exact Or.inl z
    · exact Or.inr ⟨s, l, z1, z2, z3, z4⟩
end
