section
theorem pk_us {f : Nat → Int32} {k : Nat} {x : Int32} : upd f k x k = x := if_pos rfl
theorem pk_un {f : Nat → Int32} {k j : Nat} {x : Int32} (h : j ≠ k) : upd f k x j = f j := if_neg h
theorem pk_sub {a b : Nat} (h : b ≤ a) : nI a - nI b = nI (a - b) := by
  obtain ⟨c, rfl⟩ : ∃ c, a = c + b := ⟨a - b, by omega⟩
  rw [← nI_add, Int32.add_sub_cancel, Nat.add_sub_cancel]
theorem pk_m1 (n : Nat) : nI (n + 1) + (-1) = nI n := by
  rw [← nI_1, Int32.add_assoc, show (1 : Int32) + (-1) = 0 from rfl, Int32.add_zero]
theorem pk_mul (a b : Nat) : nI a * nI b = nI (a * b) := (Int32.ofNat_mul a b).symm
theorem pk_div {a d : Nat} (ha : a < 2 ^ 31) (h0 : 0 < d) (hd : d < 2 ^ 31) : nI a / nI d = nI (a / d) := by
  apply Int32.toInt_inj.mp
  rw [lg_idiv_nonneg (by rw [nI_toInt ha]; omega) (by rw [nI_toInt hd]; omega), nI_toInt ha, nI_toInt hd, nI_toInt (Nat.lt_of_le_of_lt (Nat.div_le_self a d) ha)]
  first | rfl | exact (Int.natCast_ediv _ _).symm
theorem pk_rem {a d : Nat} (ha : a < 2 ^ 31) (h0 : 0 < d) (hd : d < 2 ^ 31) : nI a - nI a / nI d * nI d = nI (a % d) := by
  rw [pk_div ha h0 hd, pk_mul, pk_sub (Nat.div_mul_le_self a d)]
  exact congrArg nI (by have := Nat.div_add_mod' a d; omega)
theorem pk_ix (x : Int32) {n : Nat} (hn : n < 2 ^ 31) : x < 0 ∨ nI n ≤ x ∨ ∃ j : Nat, j < n ∧ x = nI j := by
  by_cases h : x < 0
  · exact Or.inl h
  · obtain ⟨j, hj, rfl⟩ := nI_of h
    by_cases h2 : j < n
    · exact Or.inr (Or.inr ⟨j, h2, rfl⟩)
    · exact Or.inr (Or.inl (nI_le (by omega) hj))
theorem pk_le {x y : Int32} {A B : Prop} (a b : Nat) (f : a ≤ b → A) (g : b < a → B) (hx : x = nI a := by rfl) (hy : y = nI b := by rfl) (ha : a < 2 ^ 31 := by omega) (hb : b < 2 ^ 31 := by omega) : (x ≤ y → A) ∧ (¬ x ≤ y → B) := by
  subst hx hy
  rw [nI_leI ha hb]
  exact ⟨f, fun z => g (by omega)⟩
theorem pk_lt {x y : Int32} {A B : Prop} (a b : Nat) (f : a < b → A) (g : b ≤ a → B) (hx : x = nI a := by rfl) (hy : y = nI b := by rfl) (ha : a < 2 ^ 31 := by omega) (hb : b < 2 ^ 31 := by omega) : (x < y → A) ∧ (¬ x < y → B) := by
  subst hx hy
  rw [nI_ltI ha hb]
  exact ⟨f, fun z => g (by omega)⟩
theorem pk_eq {x y : Int32} {A B : Prop} (a b : Nat) (f : a = b → A) (g : a ≠ b → B) (hx : x = nI a := by rfl) (hy : y = nI b := by rfl) (ha : a < 2 ^ 31 := by omega) (hb : b < 2 ^ 31 := by omega) : (x = y → A) ∧ (¬ x = y → B) := by
  subst hx hy
  rw [nI_eq ha hb]
  exact ⟨f, g⟩
theorem pk_in {x : Int32} (n N : Nat) (h : n < N) (hx : x = nI n := by rfl) (hN : N < 2 ^ 31 := by omega) : vp_in x N := by
  subst hx
  exact vp_in_nI h hN
theorem pk_cl {x : Int32} (n : Nat) (hx : x = nI n := by rfl) (h : n < 2 ^ 31 := by omega) : x.toNatClampNeg = n := by
  subst hx
  exact nI_clamp h
theorem pk_tn {n : Nat} (h : n < 2 ^ 32) : (nI n).toBitVec.toNat = n := Nat.mod_eq_of_lt h
theorem pk_and (x : Int32) {m : Int32} (k : Nat) (hm : m.toBitVec.toNat = 2 ^ k - 1) : x &&& m = nI (x.toBitVec.toNat % 2 ^ k) := by
  apply Int32.toBitVec_inj.mp
  apply BitVec.eq_of_toNat_eq
  rw [Int32.toBitVec_and, BitVec.toNat_and, hm, Nat.and_two_pow_sub_one_eq_mod]
  show _ = (BitVec.ofNat 32 _).toNat
  rw [BitVec.toNat_ofNat]
  exact (Nat.mod_eq_of_lt (Nat.lt_of_le_of_lt (Nat.mod_le _ _) x.toBitVec.isLt)).symm
theorem pk_andE (x : Int32) {m : Int32} (k : Nat) (hm : m.toBitVec.toNat = 2 ^ k - 1) : ∃ j : Nat, j < 2 ^ k ∧ x &&& m = nI j := ⟨_, Nat.mod_lt _ (Nat.two_pow_pos k), pk_and x k hm⟩
def bt (x : Int32) (i : Nat) : Bool := x.toBitVec.getLsbD i
theorem b_ext {x y : Int32} (h : ∀ i, i < 32 → bt x i = bt y i) : x = y := Int32.toBitVec_inj.mp (BitVec.eq_of_getLsbD_eq (fun i hi => h i hi))
theorem b_or (x y : Int32) (i : Nat) : bt (x ||| y) i = (bt x i || bt y i) := by unfold bt; rw [Int32.toBitVec_or, BitVec.getLsbD_or]
theorem b_and (x y : Int32) (i : Nat) : bt (x &&& y) i = (bt x i && bt y i) := by unfold bt; rw [Int32.toBitVec_and, BitVec.getLsbD_and]
theorem b_xor (x y : Int32) (i : Nat) : bt (x ^^^ y) i = (bt x i ^^ bt y i) := by unfold bt; rw [Int32.toBitVec_xor, BitVec.getLsbD_xor]
theorem b_big {x : Int32} {i : Nat} (h : 32 ≤ i) : bt x i = false := BitVec.getLsbD_of_ge _ _ h
theorem b_m1 : ∀ i, i < 32 → bt (-1) i = true := by decide +kernel
theorem b_0 (i : Nat) : bt 0 i = false := BitVec.getLsbD_zero
theorem s_l : ∀ n, n < 32 → ((nI n &&& 31).toBitVec.smod 32).toNat = n := by decide +kernel
theorem s_u : ∀ n, n < 32 → (((nI n).toUInt32 &&& Int32.toUInt32 31).toBitVec % 32).toNat = n := by decide +kernel
theorem b_shl (n : Nat) (hn : n < 32) (x : Int32) {i : Nat} (hi : i < 32) : bt (x <<< (nI n &&& 31)) i = (decide (n ≤ i) && bt x (i - n)) := by
  unfold bt
  rw [Int32.toBitVec_shiftLeft]
  show (x.toBitVec <<< ((nI n &&& 31).toBitVec.smod 32).toNat).getLsbD i = _
  rw [s_l n hn, BitVec.getLsbD_shiftLeft]
  rcases Nat.lt_or_ge i n with h | h
  · simp [h, Nat.not_le.mpr h]
  · simp [hi, h, Nat.not_lt.mpr h]
theorem b_ushr (n : Nat) (hn : n < 32) (x : Int32) (i : Nat) : bt ((x.toUInt32 >>> ((nI n).toUInt32 &&& Int32.toUInt32 31)).toInt32) i = bt x (n + i) := by
  show (x.toUInt32 >>> ((nI n).toUInt32 &&& Int32.toUInt32 31)).toBitVec.getLsbD i = x.toUInt32.toBitVec.getLsbD (n + i)
  rw [UInt32.toBitVec_shiftRight]
  show (x.toUInt32.toBitVec >>> (((nI n).toUInt32 &&& Int32.toUInt32 31).toBitVec % 32).toNat).getLsbD i = _
  rw [s_u n hn, BitVec.getLsbD_ushiftRight]
theorem b_sshr (n : Nat) (hn : n < 32) (x : Int32) {i : Nat} (hi : i < 32) : bt (x >>> (nI n &&& 31)) i = if n + i < 32 then bt x (n + i) else bt x 31 := by
  unfold bt
  rw [Int32.toBitVec_shiftRight]
  show (x.toBitVec.sshiftRight ((nI n &&& 31).toBitVec.smod 32).toNat).getLsbD i = _
  rw [s_l n hn, BitVec.getLsbD_sshiftRight, BitVec.msb_eq_getLsbD_last]
  simp [hi]
theorem mm_8 : (8 : Int32) = nI 8 := by decide +kernel
theorem mm_4 : (4 : Int32) = nI 4 := by decide +kernel
theorem mm_9 : (9 : Int32) = nI 9 := by decide +kernel
theorem mm_16 : (16 : Int32) = nI 16 := by decide +kernel
theorem mm_64 : (64 : Int32) = nI 64 := by decide +kernel
theorem mm_128 : (128 : Int32) = nI 128 := by decide +kernel
theorem mm_144 : (144 : Int32) = nI 144 := by decide +kernel
theorem mm_i8 (a b : Nat) : nI a * 8 + nI b = nI (a * 8 + b) := by rw [mm_8, pk_mul, nI_add]
theorem mm_8i (a b : Nat) : 8 * nI a + nI b = nI (a * 8 + b) := by rw [mm_8, pk_mul, nI_add, Nat.mul_comm]
theorem mm_i16 (a b : Nat) : nI a * 16 + nI b = nI (a * 16 + b) := by rw [mm_16, pk_mul, nI_add]
theorem mm_i9 (a b : Nat) : nI a * 9 + nI b = nI (a * 9 + b) := by rw [mm_9, pk_mul, nI_add]
theorem mm_4i (b : Nat) : 4 * nI b = nI (4 * b) := by rw [mm_4, pk_mul]
theorem mm_le8 {i : Nat} (h : 8 ≤ i) (hi : i < 2 ^ 31) : (8 : Int32) ≤ nI i := by rw [mm_8]; exact nI_le h hi
theorem mm_nm1 {n : Nat} (h : n < 2 ^ 31) : ¬ nI n = (-1 : Int32) := by
  intro e
  have h1 : (nI n).toInt = (-1 : Int32).toInt := by rw [e]
  rw [nI_toInt h, show (-1 : Int32).toInt = -1 from by decide] at h1
  omega
theorem mm_b1 : ∀ i, i < 32 → bt 1 i = decide (i = 0) := by decide +kernel
theorem mm_hb (x : Int32) {p : Nat} (hp : p < 32) : ((x >>> (nI p &&& 31)) &&& 1) = 1 ↔ bt x p = true := by
  have e : ∀ i, i < 32 → bt ((x >>> (nI p &&& 31)) &&& 1) i = (decide (i = 0) && bt x p) := by
    intro i hi
    rw [b_and, b_sshr p hp x hi, mm_b1 i hi]
    by_cases h : i = 0
    · subst h; simp [hp]
    · simp [h]
  constructor
  · intro h
    have h2 := e 0 (by omega)
    rw [h, mm_b1 0 (by omega)] at h2
    simpa using h2.symm
  · intro h
    apply b_ext
    intro i hi
    rw [e i hi, h, mm_b1 i hi]; simp
theorem mm_hb0 (x : Int32) {p : Nat} (hp : p < 32) : ((x >>> (nI p &&& 31)) &&& 1) = 0 ↔ bt x p = false := by
  have e : ∀ i, i < 32 → bt ((x >>> (nI p &&& 31)) &&& 1) i = (decide (i = 0) && bt x p) := by
    intro i hi
    rw [b_and, b_sshr p hp x hi, mm_b1 i hi]
    by_cases h : i = 0
    · subst h; simp [hp]
    · simp [h]
  constructor
  · intro h
    have h2 := e 0 (by omega)
    rw [h, b_0] at h2
    simpa using h2.symm
  · intro h
    apply b_ext
    intro i hi
    rw [e i hi, h, b_0]; simp
theorem mm_one {p : Nat} (hp : p < 32) (i : Nat) : bt ((1 : Int32) <<< (nI p &&& 31)) i = true ↔ i = p := by
  rcases Nat.lt_or_ge i 32 with hi | hi
  · rw [b_shl p hp 1 hi, mm_b1 (i - p) (by omega)]
    simp
    omega
  · rw [b_big hi]
    constructor
    · intro h; cases h
    · intro h; omega
theorem mm_256 : (256 : Int32) = (1 : Int32) <<< (nI 8 &&& 31) := by decide +kernel
theorem mm_ob {C : Nat → Int32} {k p j q : Nat} (hp : p < 32) : bt (upd C k (C k ||| ((1 : Int32) <<< (nI p &&& 31))) j) q = true ↔ (bt (C j) q = true ∨ (j = k ∧ q = p)) := by
  by_cases h : j = k
  · subst h
    rw [pk_us, b_or, Bool.or_eq_true, mm_one hp]
    simp
  · rw [pk_un h]
    simp [h]
def mm_al (l : Int32) : Int32 := if l = 0 then 1 else ((1 : Int32) <<< (l &&& 31)) - 1
theorem mm_alb : ∀ k, k < 9 → ∀ p, p < 32 → bt (mm_al (nI k)) p = decide (p < k ∨ (k = 0 ∧ p = 0)) := by decide +kernel
theorem mm_al8 {k p : Nat} (hk : k < 9) (h : bt (mm_al (nI k)) p = true) : p < 8 := by
  rcases Nat.lt_or_ge p 32 with hp | hp
  · rw [mm_alb k hk p hp] at h
    have := of_decide_eq_true h
    omega
  · rw [b_big hp] at h; cases h
theorem mm_al0 {k : Nat} (hk : k < 9) : bt (mm_al (nI k)) 0 = true := by
  rw [mm_alb k hk 0 (by omega)]
  exact decide_eq_true (by omega)
theorem mm_bl : vp_nar .boolean 1 = 1 := by decide +kernel
theorem mm_bl0 : vp_nar .boolean 0 = 0 := by decide +kernel
theorem mm_z {x : Int32} (h : ∀ p, bt x p = false) : x = 0 := b_ext (fun i _ => by rw [h i, b_0])
end
section
def mm_wl (L : Nat → Int32) : Nat → Nat → Nat → Prop
  | 0, a, b => a = b
  | n + 1, a, b => mm_wl L n a b ∨ ∃ c, c < 8 ∧ mm_wl L n a c ∧ bt (L c) b = true
def mm_LK (L : Nat → Int32) : Prop := ∀ a, a < 8 → ∀ b, bt (L a) b = true → b < 8 ∧ b ≠ a ∧ bt (L b) a = true
def mm_cn (L : Nat → Int32) (a b : Nat) : Prop := ∃ n, mm_wl L n a b
section
variable {L : Nat → Int32}
theorem mm_wl_lt (h : mm_LK L) : ∀ (n : Nat) {a b : Nat}, a < 8 → mm_wl L n a b → b < 8 := by
  intro n
  induction n with
  | zero => intro a b ha hw; cases hw; exact ha
  | succ n ih =>
    intro a b ha hw
    rcases hw with hw | ⟨c, hc, _, hb⟩
    · exact ih ha hw
    · exact (h c hc b hb).1
theorem mm_wl_up {n k : Nat} {a b : Nat} (h : n ≤ k) (hw : mm_wl L n a b) : mm_wl L k a b := by
  induction k with
  | zero =>
    have : n = 0 := by omega
    subst this; exact hw
  | succ k ih =>
    rcases Nat.lt_or_ge n (k + 1) with h1 | h1
    · exact Or.inl (ih (by omega))
    · have : n = k + 1 := by omega
      subst this; exact hw
theorem mm_wl_rf (n a : Nat) : mm_wl L n a a := mm_wl_up (Nat.zero_le n) (show mm_wl L 0 a a from rfl)
theorem mm_wl_hd : ∀ (n : Nat) {a b c : Nat}, a < 8 → c < 8 → bt (L a) c = true → mm_wl L n c b → mm_wl L (n + 1) a b := by
  intro n
  induction n with
  | zero => intro a b c ha hc hac hw; cases hw; exact Or.inr ⟨a, ha, rfl, hac⟩
  | succ n ih =>
    intro a b c ha hc hac hw
    rcases hw with hw | ⟨e, he, hw, heb⟩
    · exact Or.inl (ih ha hc hac hw)
    · exact Or.inr ⟨e, he, ih ha hc hac hw, heb⟩
theorem mm_wl_tl (h : mm_LK L) : ∀ (n : Nat) {a b : Nat}, a < 8 → mm_wl L (n + 1) a b → a = b ∨ ∃ c, c < 8 ∧ bt (L a) c = true ∧ mm_wl L n c b := by
  intro n
  induction n with
  | zero =>
    intro a b ha hw
    rcases hw with hw | ⟨c, hc, hw, hb⟩
    · exact Or.inl hw
    · cases hw
      exact Or.inr ⟨b, (h a ha b hb).1, hb, rfl⟩
  | succ n ih =>
    intro a b ha hw
    rcases hw with hw | ⟨e, he, hw, hb⟩
    · rcases ih ha hw with h1 | ⟨c, hc, h1, h2⟩
      · exact Or.inl h1
      · exact Or.inr ⟨c, hc, h1, Or.inl h2⟩
    · rcases ih ha hw with h1 | ⟨c, hc, h1, h2⟩
      · cases h1
        exact Or.inr ⟨b, (h a ha b hb).1, hb, mm_wl_rf _ _⟩
      · exact Or.inr ⟨c, hc, h1, Or.inr ⟨e, he, h2, hb⟩⟩
theorem mm_wl_sy (h : mm_LK L) : ∀ (n : Nat) {a b : Nat}, a < 8 → mm_wl L n a b → mm_wl L n b a := by
  intro n
  induction n with
  | zero => intro a b ha hw; cases hw; exact rfl
  | succ n ih =>
    intro a b ha hw
    rcases hw with hw | ⟨c, hc, hw, hb⟩
    · exact Or.inl (ih ha hw)
    · have hl := h c hc b hb
      exact mm_wl_hd n hl.1 hc hl.2.2 (ih ha hw)
end
noncomputable def mm_ct (p : Nat → Prop) : Nat → Nat
  | 0 => 0
  | k + 1 => mm_ct p k + @ite Nat (p k) (Classical.propDecidable _) 1 0
theorem mm_ct_le (p : Nat → Prop) (k : Nat) : mm_ct p k ≤ k := by
  induction k with
  | zero => exact Nat.le_refl 0
  | succ k ih =>
    unfold mm_ct
    by_cases h : p k
    · rw [if_pos h]; omega
    · rw [if_neg h]; omega
theorem mm_ct_mo {p q : Nat → Prop} (k : Nat) (h : ∀ b, b < k → p b → q b) : mm_ct p k ≤ mm_ct q k := by
  induction k with
  | zero => exact Nat.le_refl 0
  | succ k ih =>
    unfold mm_ct
    have h1 := ih (fun b hb => h b (by omega))
    by_cases hp : p k
    · rw [if_pos hp, if_pos (h k (by omega) hp)]; omega
    · rw [if_neg hp]; omega
theorem mm_ct_st {p q : Nat → Prop} (k : Nat) (h : ∀ b, b < k → p b → q b) (b : Nat) (hb : b < k) (hq : q b) (hp : ¬ p b) : mm_ct p k < mm_ct q k := by
  induction k with
  | zero => omega
  | succ k ih =>
    unfold mm_ct
    have h1 := mm_ct_mo k (fun b hb => h b (by omega))
    by_cases hbk : b = k
    · subst hbk
      rw [if_neg hp, if_pos hq]; omega
    · have h2 := ih (fun b hb => h b (by omega)) (by omega)
      by_cases hpk : p k
      · rw [if_pos hpk, if_pos (h k (by omega) hpk)]; omega
      · rw [if_neg hpk]; omega
section
variable {L : Nat → Int32}
theorem mm_stb {n a : Nat} (h : ∀ b, mm_wl L (n + 1) a b → mm_wl L n a b) : ∀ (k b : Nat), mm_wl L (n + k) a b → mm_wl L n a b := by
  intro k
  induction k with
  | zero => intro b hw; exact hw
  | succ k ih =>
    intro b hw
    rcases hw with hw | ⟨c, hc, hw, hb⟩
    · exact ih b hw
    · exact h b (Or.inr ⟨c, hc, ih c hw, hb⟩)
theorem mm_gro {a : Nat} (ha : a < 8) : ∀ n, (∀ j, j < n → ∃ b, b < 8 ∧ mm_wl L (j + 1) a b ∧ ¬ mm_wl L j a b) → n + 1 ≤ mm_ct (mm_wl L n a) 8 := by
  intro n
  induction n with
  | zero =>
    intro _
    have := mm_ct_st (p := fun _ => False) (q := mm_wl L 0 a) 8 (fun _ _ z => z.elim) a ha rfl id
    omega
  | succ n ih =>
    intro h
    have h1 := ih (fun j hj => h j (by omega))
    obtain ⟨b, hb, h2, h3⟩ := h n (by omega)
    have := mm_ct_st (p := mm_wl L n a) (q := mm_wl L (n + 1) a) 8 (fun _ _ z => Or.inl z) b hb h2 h3
    omega
theorem mm_pig (h : mm_LK L) {n a b : Nat} (ha : a < 8) (hw : mm_wl L n a b) : mm_wl L 7 a b := by
  have h1 : ∃ j, j < 8 ∧ ∀ b, mm_wl L (j + 1) a b → mm_wl L j a b := by
    apply Classical.byContradiction
    intro hn
    have h2 : ∀ j, j < 8 → ∃ b, b < 8 ∧ mm_wl L (j + 1) a b ∧ ¬ mm_wl L j a b := by
      intro j hj
      apply Classical.byContradiction
      intro hm
      apply hn
      refine ⟨j, hj, fun b hb => ?_⟩
      apply Classical.byContradiction
      intro hc
      exact hm ⟨b, mm_wl_lt h _ ha hb, hb, hc⟩
    have h3 := mm_gro ha 8 h2
    have h4 := mm_ct_le (mm_wl L 8 a) 8
    omega
  obtain ⟨j, hj, hs⟩ := h1
  rcases Nat.lt_or_ge n j with h5 | h5
  · exact mm_wl_up (by omega) hw
  · have e : n = j + (n - j) := by omega
    rw [e] at hw
    exact mm_wl_up (by omega) (mm_stb hs _ b hw)
theorem mm_cn7 (h : mm_LK L) {a b : Nat} (ha : a < 8) : mm_cn L a b ↔ mm_wl L 7 a b := ⟨fun ⟨_, w⟩ => mm_pig h ha w, fun w => ⟨7, w⟩⟩
theorem mm_cn_rf (a : Nat) : mm_cn L a a := ⟨0, rfl⟩
theorem mm_cn_st {a b c : Nat} (hb : b < 8) (h : mm_cn L a b) (hc : bt (L b) c = true) : mm_cn L a c := by
  obtain ⟨n, w⟩ := h
  exact ⟨n + 1, Or.inr ⟨b, hb, w, hc⟩⟩
theorem mm_cn_sy (h : mm_LK L) {a b : Nat} (ha : a < 8) (w : mm_cn L a b) : mm_cn L b a := by
  obtain ⟨n, w⟩ := w
  exact ⟨n, mm_wl_sy h n ha w⟩
theorem mm_wl_add : ∀ (k : Nat) {n a b c : Nat}, mm_wl L n a b → mm_wl L k b c → mm_wl L (n + k) a c := by
  intro k
  induction k with
  | zero => intro n a b c h1 h2; cases h2; exact h1
  | succ k ih =>
    intro n a b c h1 h2
    rcases h2 with h2 | ⟨e, he, h2, h3⟩
    · exact Or.inl (ih h1 h2)
    · exact Or.inr ⟨e, he, ih h1 h2, h3⟩
theorem mm_cn_tr {a b c : Nat} (h : mm_cn L a b) (h2 : mm_cn L b c) : mm_cn L a c := by
  obtain ⟨n, w⟩ := h
  obtain ⟨k, w2⟩ := h2
  exact ⟨n + k, mm_wl_add k w w2⟩
/-- exactness of far up to j -/
def mm_E (L : Nat → Int32) (f : Nat → Nat → Nat) (j : Nat) : Prop := ∀ a b n, a < 8 → b < 8 → n ≤ j → (f a b ≤ n ↔ mm_wl L n a b)
/-- what a round without harm makes of far: g, w out of f -/
def mm_X (L : Nat → Int32) (f g : Nat → Nat → Nat) (w : Nat → Nat → Int32) : Prop := ∀ a b, a < 8 → b < 8 →
  (a = b → g a b = 0) ∧ (a ≠ b → 1 ≤ g a b ∧ g a b ≤ 8 ∧ (∀ c, c < 8 → bt (L a) c = true → g a b ≤ f c b + 1) ∧
    ((g a b = 8 ∧ w a b = -1) ∨ (g a b < 8 ∧ ∃ c, c < 8 ∧ w a b = nI c ∧ bt (L a) c = true ∧ g a b = f c b + 1)))
theorem mm_E_st (h : mm_LK L) {f g : Nat → Nat → Nat} {w : Nat → Nat → Int32} (hx : mm_X L f g w) {j : Nat} (hj : j + 1 ≤ 7) (he : mm_E L f j) : mm_E L g (j + 1) := by
  intro a b n ha hb hn
  have hab := hx a b ha hb
  by_cases e : a = b
  · subst e
    rw [hab.1 rfl]
    exact ⟨fun _ => mm_wl_rf _ _, fun _ => Nat.zero_le _⟩
  · obtain ⟨h1, h2, h3, h4⟩ := hab.2 e
    cases n with
    | zero => exact ⟨fun z => by omega, fun z => (e z).elim⟩
    | succ k =>
      constructor
      · intro z
        rcases h4 with ⟨h5, _⟩ | ⟨_, c, hc, _, hac, hg⟩
        · omega
        · exact mm_wl_hd k ha hc hac ((he c b k hc hb (by omega)).mp (by omega))
      · intro z
        rcases mm_wl_tl h k ha z with z | ⟨c, hc, hac, hw⟩
        · exact (e z).elim
        · have h6 := (he c b k hc hb (by omega)).mpr hw
          have h7 := h3 c hc hac
          omega
theorem mm_E_dn {f : Nat → Nat → Nat} {j k : Nat} (h : j ≤ k) (he : mm_E L f k) : mm_E L f j := fun a b n ha hb hn => he a b n ha hb (by omega)
theorem mm_E_t (h : mm_LK L) {f g : Nat → Nat → Nat} {w : Nat → Nat → Int32} (hx : mm_X L f g w) {t : Nat} (ht : 24 ≤ t) (he : mm_E L f (min (t - 24) 7)) : mm_E L g (min (t + 1 - 24) 7) := by
  rcases Nat.lt_or_ge t 31 with h1 | h1
  · have e1 : min (t - 24) 7 = t - 24 := by omega
    have e2 : min (t + 1 - 24) 7 = (t - 24) + 1 := by omega
    rw [e1] at he
    rw [e2]
    exact mm_E_st h hx (by omega) he
  · have e1 : min (t - 24) 7 = 7 := by omega
    have e2 : min (t + 1 - 24) 7 = 6 + 1 := by omega
    rw [e1] at he
    rw [e2]
    exact mm_E_st h hx (by omega) (mm_E_dn (by omega) he)
/-- the ways are right -/
def mm_Wy (L : Nat → Int32) (w : Nat → Nat → Int32) : Prop := ∀ a b, a < 8 → b < 8 → a ≠ b →
  (∀ n, n ≤ 6 → mm_wl L (n + 1) a b → ∃ c, c < 8 ∧ w a b = nI c ∧ bt (L a) c = true ∧ mm_wl L n c b) ∧ (¬ mm_wl L 7 a b → w a b = -1)
theorem mm_Wy_of (h : mm_LK L) {f g : Nat → Nat → Nat} {w : Nat → Nat → Int32} (hx : mm_X L f g w) (he : mm_E L f 7) : mm_Wy L w := by
  intro a b ha hb e
  obtain ⟨h1, h2, h3, h4⟩ := (hx a b ha hb).2 e
  constructor
  · intro n hn z
    rcases mm_wl_tl h n ha z with z | ⟨c, hc, hac, hw⟩
    · exact (e z).elim
    · have h6 := (he c b n hc hb (by omega)).mpr hw
      have h7 := h3 c hc hac
      rcases h4 with ⟨h5, _⟩ | ⟨_, c2, hc2, h8, hac2, hg⟩
      · omega
      · exact ⟨c2, hc2, h8, hac2, (he c2 b n hc2 hb (by omega)).mp (by omega)⟩
  · intro z
    rcases h4 with ⟨_, h5⟩ | ⟨h5, c2, hc2, _, hac2, hg⟩
    · exact h5
    · exact (z (mm_wl_hd 6 ha hc2 hac2 ((he c2 b 6 hc2 hb (by omega)).mp (by omega)))).elim
end
end
section
theorem mm_w_hb {A B : Prop} {x : Int32} {p : Nat} (hp : p < 32) (h0 : bt x p = false → A) (h1 : bt x p = true → B) : wpX_hasBit (fun r => ((r = 0 → A) ∧ (¬ r = 0 → B))) x (nI p) := by
  refine ⟨fun h => br_f (by decide) (h1 ((mm_hb x hp).mp h)), fun h => br_t rfl (h0 ?_)⟩
  cases e : bt x p with
  | false => rfl
  | true => exact (h ((mm_hb x hp).mpr e)).elim
def mm_nib (x : Int32) (b : Nat) : Int32 := ((x.toUInt32 >>> ((4 * nI b).toUInt32 &&& Int32.toUInt32 31)).toInt32) &&& 15
def mm_hr (x1 told : Int32) (nF0 nW0 nF nW : Nat → Int32) (j b : Nat) : Prop := (nF0 j ≤ mm_nib told b + 1 ∧ nF j = nF0 j ∧ nW j = nW0 j) ∨ (¬ nF0 j ≤ mm_nib told b + 1 ∧ nF j = mm_nib told b + 1 ∧ nW j = x1)
section
variable {d : Int32} {c : Nat} {L db S G N B P T R F W nF nW H C O Lf K r0 r1 r2 r3 r4 : Nat → Int32} {post : SX → Prop}
theorem mm_w_hear_l {to : Nat} {x1 told : Int32} (hto : to < 8) (nF0 nW0 : Nat → Int32)
  (hp : ∀ nF nW : Nat → Int32, (∀ j, ¬ (to * 8 ≤ j ∧ j < to * 8 + 8) → nF j = nF0 j ∧ nW j = nW0 j) → (∀ b, b < 8 → mm_hr x1 told nF0 nW0 nF nW (to * 8 + b) b) → post (d, nI c, L, db, S, G, N, B, P, T, R, F, W, nF, nW, H, C, O, Lf, K, r0, r1, r2, r3, r4)) :
  ∀ (k i : Nat) (nF nW : Nat → Int32), i + k = 8 → (∀ j, ¬ (to * 8 ≤ j ∧ j < to * 8 + i) → nF j = nF0 j ∧ nW j = nW0 j) → (∀ b, b < i → mm_hr x1 told nF0 nW0 nF nW (to * 8 + b) b) → wX_hearWays_3 post x1 (nI to) told d (nI c) (k + 1) (nI i) L db S G N B P T R F W nF nW H C O Lf K r0 r1 r2 r3 r4 := by
  intro k
  induction k with
  | zero =>
    intro i nF nW hi h1 h2
    have : i = 8 := by omega
    subst this
    exact br_t (by decide) (hp nF nW h1 h2)
  | succ k ih =>
    intro i nF nW hi h1 h2
    refine br_f (nI_ge (b := 8) (by omega) (by decide)) (nm_e ⟨pk_in (to * 8 + i) 64 (by omega) (mm_i8 to i), ?_⟩)
    rw [pk_cl (to * 8 + i) (mm_i8 to i)]
    have hu := h1 (to * 8 + i) (by omega)
    refine br_c (fun hle => nm_r (nI_1 i) (ih (i + 1) nF nW (by omega) ?_ ?_)) (fun hle => ⟨pk_in (to * 8 + i) 64 (by omega) (mm_i8 to i), nm_e ⟨pk_in (to * 8 + i) 64 (by omega) (mm_i8 to i), nm_e (nm_r (nI_1 i) (ih (i + 1) _ _ (by omega) ?_ ?_))⟩⟩)
    · intro j hj
      exact h1 j (by omega)
    · intro b hb
      by_cases e : b = i
      · subst e
        rw [hu.1] at hle
        exact Or.inl ⟨hle, hu.1, hu.2⟩
      · exact h2 b (by omega)
    · intro j hj
      have hne : j ≠ to * 8 + i := by omega
      rw [pk_un hne, pk_un hne]
      exact h1 j (by omega)
    · intro b hb
      by_cases e : b = i
      · subst e
        rw [hu.1] at hle
        exact Or.inr ⟨hle, pk_us, pk_us⟩
      · have hne : to * 8 + b ≠ to * 8 + i := by omega
        unfold mm_hr
        rw [pk_un hne, pk_un hne]
        exact h2 b (by omega)
theorem mm_w_hear {to : Nat} {x1 told : Int32} (hto : to < 8)
  (hp : ∀ nF' nW' : Nat → Int32, (∀ j, ¬ (to * 8 ≤ j ∧ j < to * 8 + 8) → nF' j = nF j ∧ nW' j = nW j) → (∀ b, b < 8 → mm_hr x1 told nF nW nF' nW' (to * 8 + b) b) → post (d, nI c, L, db, S, G, N, B, P, T, R, F, W, nF', nW', H, C, O, Lf, K, r0, r1, r2, r3, r4)) : wpX_hearWays post (d, nI c, L, db, S, G, N, B, P, T, R, F, W, nF, nW, H, C, O, Lf, K, r0, r1, r2, r3, r4) x1 (nI to) told :=
  ⟨9, mm_w_hear_l hto nF nW hp 8 0 nF nW rfl (fun _ _ => ⟨rfl, rfl⟩) (fun b hb => absurd hb (by omega))⟩
theorem mm_w_ho_w {to : Nat} {x1 told : Int32} (hto : to < 8)
  (hp : ∀ nF' nW' : Nat → Int32, (∀ j, ¬ (to * 8 ≤ j ∧ j < to * 8 + 8) → nF' j = nF j ∧ nW' j = nW j) → (∀ b, b < 8 → mm_hr x1 told nF nW nF' nW' (to * 8 + b) b) → post (d, nI c, L, db, S, G, N, B, P, T, R, F, W, nF', nW', H, C, O, Lf, K, r0, r1, r2, r3, r4)) : wpX_handOver post (d, nI c, L, db, S, G, N, B, P, T, R, F, W, nF, nW, H, C, O, Lf, K, r0, r1, r2, r3, r4) x1 (nI to) 144 told :=
  br_t rfl (mm_w_hear hto hp)
theorem mm_w_take {a m p s g : Nat} (ha : a < 8) (hm : m < 16) (hp : p < 9) (hs : s < 8) (hg : g < 8) (hS : S m = nI s) (hG : G m = nI g)
  (h1 : p = 8 → a = s → post (d, nI c, L, db, S, G, N, B, P, T, upd R m 1, F, W, nF, nW, H, C, O, Lf, K, r0, r1, r2, r3, r4))
  (h2 : p < 8 → a = g → T m = 0 → post (d, nI c, L, db, S, G, N, B, upd P m (P m ||| ((1 : Int32) <<< (nI p &&& 31))), T, R, F, W, nF, nW, H, C, O, Lf, K, r0, r1, r2, r3, r4))
  (h3 : p < 8 → a = g → ¬ T m = 0 → post (d, nI c, L, db, S, G, N, B, upd P m (P m ||| ((1 : Int32) <<< (nI p &&& 31))), T, R, F, W, nF, nW, H, upd C (a * 16 + m) (C (a * 16 + m) ||| ((1 : Int32) <<< (nI 8 &&& 31))), O, Lf, K, r0, r1, r2, r3, r4))
  (h4 : (p = 8 → a ≠ s) → (p < 8 → a ≠ g) → post (d, nI c, L, db, S, G, N, B, P, T, R, F, W, nF, nW, H, upd C (a * 16 + m) (C (a * 16 + m) ||| ((1 : Int32) <<< (nI p &&& 31))), O, Lf, K, r0, r1, r2, r3, r4)) :
  wpX_takeIn post (d, nI c, L, db, S, G, N, B, P, T, R, F, W, nF, nW, H, C, O, Lf, K, r0, r1, r2, r3, r4) (nI a) (nI m) (nI p) := by
  have h83 : (p = 8 → a ≠ s) → (p < 8 → a ≠ g) → wX_takeIn_83 post (nI a) (nI m) (nI p) d (nI c) L db S G N B P T R F W nF nW H C O Lf K r0 r1 r2 r3 r4 := by
    intro z1 z2
    refine ⟨pk_in (a * 16 + m) 128 (by omega) (mm_i16 a m), pk_in (a * 16 + m) 128 (by omega) (mm_i16 a m), nm_e ?_⟩
    rw [pk_cl (a * 16 + m) (mm_i16 a m)]
    exact h4 z1 z2
  have hmi : vp_in (nI m) 16 := vp_in_nI hm (by decide)
  have hmc : (nI m).toNatClampNeg = m := nI_clamp (by omega)
  have h26 : (p = 8 → a ≠ s) → wX_takeIn_26 post (nI a) (nI m) (nI p) d (nI c) L db S G N B P T R F W nF nW H C O Lf K r0 r1 r2 r3 r4 := by
    intro z1
    refine pk_eq p 8 (fun e => h83 z1 (fun z => absurd z (by omega))) (fun e => ⟨hmi, ?_⟩)
    rw [hmc, hG]
    refine pk_eq a g (fun e2 => ⟨hmi, hmi, nm_e ⟨hmi, br_c (fun z => h2 (by omega) e2 z) (fun z => ⟨pk_in (a * 16 + m) 128 (by omega) (mm_i16 a m), pk_in (a * 16 + m) 128 (by omega) (mm_i16 a m), nm_e ?_⟩)⟩⟩) (fun e2 => h83 z1 (fun _ => e2))
    rw [pk_cl (a * 16 + m) (mm_i16 a m), mm_256]
    exact h3 (by omega) e2 z
  refine pk_eq p 8 (fun e => ⟨hmi, ?_⟩) (fun e => h26 (fun z => absurd z e))
  rw [hmc, hS]
  refine pk_eq a s (fun e2 => ⟨hmi, nm_e ?_⟩) (fun e2 => h26 (fun _ => e2))
  rw [mm_bl]
  exact h1 e e2
theorem mm_w_ho_p {a m p s g : Nat} {x1 told : Int32} (ha : a < 8) (hm : m < 16) (hp : p < 9) (hs : s < 8) (hg : g < 8) (hS : S m = nI s) (hG : G m = nI g)
  (h1 : p = 8 → a = s → post (d, nI c, L, db, S, G, N, B, P, T, upd R m 1, F, W, nF, nW, H, C, O, Lf, K, r0, r1, r2, r3, r4))
  (h2 : p < 8 → a = g → T m = 0 → post (d, nI c, L, db, S, G, N, B, upd P m (P m ||| ((1 : Int32) <<< (nI p &&& 31))), T, R, F, W, nF, nW, H, C, O, Lf, K, r0, r1, r2, r3, r4))
  (h3 : p < 8 → a = g → ¬ T m = 0 → post (d, nI c, L, db, S, G, N, B, upd P m (P m ||| ((1 : Int32) <<< (nI p &&& 31))), T, R, F, W, nF, nW, H, upd C (a * 16 + m) (C (a * 16 + m) ||| ((1 : Int32) <<< (nI 8 &&& 31))), O, Lf, K, r0, r1, r2, r3, r4))
  (h4 : (p = 8 → a ≠ s) → (p < 8 → a ≠ g) → post (d, nI c, L, db, S, G, N, B, P, T, R, F, W, nF, nW, H, upd C (a * 16 + m) (C (a * 16 + m) ||| ((1 : Int32) <<< (nI p &&& 31))), O, Lf, K, r0, r1, r2, r3, r4)) :
  wpX_handOver post (d, nI c, L, db, S, G, N, B, P, T, R, F, W, nF, nW, H, C, O, Lf, K, r0, r1, r2, r3, r4) x1 (nI a) (nI (m * 9 + p)) told := by
  refine pk_eq (m * 9 + p) 144 (fun e => absurd e (by omega)) (fun e => ⟨by decide, by decide, ?_⟩)
  have e1 : nI (m * 9 + p) / 9 = nI m := by
    rw [mm_9, pk_div (by omega) (by omega) (by omega)]
    exact congrArg nI (by omega)
  have e2 : nI (m * 9 + p) - nI (m * 9 + p) / 9 * 9 = nI p := by
    rw [mm_9, pk_rem (by omega) (by omega) (by omega)]
    exact congrArg nI (by omega)
  rw [e2, e1]
  exact mm_w_take ha hm hp hs hg hS hG h1 h2 h3 h4
def mm_or (L O Lf : Nat → Int32) (τ : Nat → Nat) (i : Nat) : Prop := O i = -1 ∨ ∃ s l, s < 8 ∧ l ≤ 20 ∧ O i = nI s ∧ Lf i = nI l ∧ (∀ b, bt (L s) b = true → l + τ s ≤ 20)
def mm_t1 (τ : Nat → Nat) (a : Nat) : Nat → Nat := fun s => if s = a then τ s + 1 else τ s
theorem mm_w_fate_l {po : Int32 → SX → Prop} {a : Nat} {τ : Nat → Nat} (ha : a < 8) (b0 : Nat) (hb0 : bt (L a) b0 = true) (hK : ∀ i, i < 16 → ∃ k, k ≤ 2 ∧ K i = nI k)
  (hp : ∀ (f : Nat) (O Lf : Nat → Int32), f ≤ 3 → (f < 3 → τ a ≤ 20) → (∀ i, i < 16 → mm_or L O Lf (mm_t1 τ a) i) → po (nI f) (d, nI c, L, db, S, G, N, B, P, T, R, F, W, nF, nW, H, C, O, Lf, K, r0, r1, r2, r3, r4)) :
  ∀ (k i f : Nat) (O Lf : Nat → Int32), i + k = 16 → f ≤ 3 → (f < 3 → τ a ≤ 20) → (∀ j, j < i → mm_or L O Lf (mm_t1 τ a) j) → (∀ j, i ≤ j → j < 16 → mm_or L O Lf τ j) → wX_fateOfNextPiece_4 po (nI a) d (nI c) (k + 1) (nI f) (nI i) L db S G N B P T R F W nF nW H C O Lf K r0 r1 r2 r3 r4 := by
  intro k
  induction k with
  | zero =>
    intro i f O Lf hi hf hf3 h1 h2
    have : i = 16 := by omega
    subst this
    exact br_t (by decide) (hp f O Lf hf hf3 h1)
  | succ k ih =>
    intro i f O Lf hi hf hf3 h1 h2
    have hi16 : i < 16 := by omega
    have hin : vp_in (nI i) 16 := vp_in_nI hi16 (by decide)
    refine br_f (nI_ge (b := 16) hi16 (by decide)) ⟨hin, ?_⟩
    rw [nI_clamp (n := i) (by omega)]
    have hme := h2 i (Nat.le_refl i) hi16
    refine br_c (fun e => ⟨hin, ?_⟩) (fun e => nm_r (nI_1 i) (ih (i + 1) f O Lf (by omega) hf hf3 ?_ (fun j hj hj2 => h2 j (by omega) hj2)))
    · rcases hme with z | ⟨s, l, hs, hl, hO, hL, hq⟩
      · rw [z] at e
        exact absurd e.symm (mm_nm1 (by omega))
      · have hsa : s = a := (nI_eq (by omega) (by omega)).mp (hO.symm.trans e)
        subst hsa
        have hq0 := hq b0 hb0
        rw [hL]
        refine pk_eq l 0 (fun el => ⟨hin, ?_⟩) (fun el => ⟨hin, hin, nm_e (nm_r (nI_1 i) (ih (i + 1) f O _ (by omega) hf hf3 ?_ ?_))⟩)
        · obtain ⟨k2, hk2, eK⟩ := hK i hi16
          refine nm_r eK ⟨hin, nm_e (nm_r (nI_1 i) (ih (i + 1) k2 _ Lf (by omega) (by omega) (fun _ => by omega) ?_ ?_))⟩
          · intro j hj
            by_cases ej : j = i
            · subst ej
              exact Or.inl pk_us
            · unfold mm_or
              rw [pk_un ej]
              exact h1 j (by omega)
          · intro j hj hj2
            unfold mm_or
            rw [pk_un (by omega)]
            exact h2 j (by omega) hj2
        · intro j hj
          by_cases ej : j = i
          · subst ej
            refine Or.inr ⟨s, l - 1, hs, by omega, hO, ?_, ?_⟩
            · rw [pk_us]
              exact pk_sub (b := 1) (by omega)
            · intro b hb
              have h5 := hq b hb
              unfold mm_t1
              rw [if_pos rfl]
              omega
          · unfold mm_or
            rw [pk_un ej]
            exact h1 j (by omega)
        · intro j hj hj2
          unfold mm_or
          rw [pk_un (by omega)]
          exact h2 j (by omega) hj2
    · intro j hj
      by_cases ej : j = i
      · subst ej
        rcases hme with z | ⟨s, l, hs, hl, hO, hL, hq⟩
        · exact Or.inl z
        · refine Or.inr ⟨s, l, hs, hl, hO, hL, fun b hb => ?_⟩
          have hsa : s ≠ a := fun z => e (by rw [hO, z])
          unfold mm_t1
          rw [if_neg hsa]
          exact hq b hb
      · exact h1 j (by omega)
theorem mm_w_keep_l {x1 x2 x3 x4 : Int32} (h0 : post (d, nI c, L, db, S, G, N, B, P, T, R, F, W, nF, nW, H, C, O, Lf, K, r0, r1, r2, r3, r4)) (h1 : ∀ i, i < 16 → r0 i = 0 → post (d, nI c, L, db, S, G, N, B, P, T, R, F, W, nF, nW, H, C, O, Lf, K, upd r0 i 3, upd r1 i x1, upd r2 i x2, upd r3 i x3, upd r4 i x4)) :
  ∀ k i : Nat, i + k = 16 → wX_keepLate_3 post x1 x2 x3 x4 d (nI c) L db S G N B P T R F W nF nW H C O Lf K r0 r1 r2 r3 r4 (k + 1) (nI i) := by
  intro k
  induction k with
  | zero =>
    intro i hi
    have : i = 16 := by omega
    subst this
    exact br_t (by decide) h0
  | succ k ih =>
    intro i hi
    have hi16 : i < 16 := by omega
    have hin : vp_in (nI i) 16 := vp_in_nI hi16 (by decide)
    refine br_f (nI_ge (b := 16) hi16 (by decide)) ⟨hin, ?_⟩
    rw [nI_clamp (n := i) (by omega)]
    exact br_c (fun e => ⟨hin, nm_e ⟨hin, nm_e ⟨hin, nm_e ⟨hin, nm_e ⟨hin, nm_e (h1 i hi16 e)⟩⟩⟩⟩⟩) (fun e => nm_r (nI_1 i) (ih (i + 1) (by omega)))
def mm_lt (Z : Int32 → Int32 → Int32 → Prop) (q : Nat) (r0 r1 r2 r3 : Nat → Int32) (i : Nat) : Prop := ∃ r, r ≤ 3 ∧ r0 i = nI r ∧ (r = 0 ∨ (r + q ≤ 24 ∧ Z (r1 i) (r2 i) (r3 i)))
theorem mm_w_send {Z : Int32 → Int32 → Int32 → Prop} {q a : Nat} {τ : Nat → Nat} {x2 x3 x4 : Int32} (ha : a < 8) (b0 : Nat) (hb0 : bt (L a) b0 = true) (hK : ∀ i, i < 16 → ∃ k, k ≤ 2 ∧ K i = nI k)
  (hO : ∀ i, i < 16 → mm_or L O Lf τ i) (hT : ∀ i, i < 16 → mm_lt Z q r0 r1 r2 r3 i) (hq : τ a ≤ 20 → 3 + q ≤ 24) (hZ : Z (nI a) x2 x3)
  (hN : ∀ O Lf r0 r1 r2 r3 r4 : Nat → Int32, (∀ i, i < 16 → mm_or L O Lf (mm_t1 τ a) i) → (∀ i, i < 16 → mm_lt Z q r0 r1 r2 r3 i) → τ a ≤ 20 → post (d, nI c, L, db, S, G, N, B, P, T, R, F, W, nF, nW, H, C, O, Lf, K, r0, r1, r2, r3, r4))
  (hD : ∀ O Lf r0 r1 r2 r3 r4 : Nat → Int32, (∀ i, i < 16 → mm_or L O Lf (mm_t1 τ a) i) → (∀ i, i < 16 → mm_lt Z q r0 r1 r2 r3 i) → wpX_handOver post (d, nI c, L, db, S, G, N, B, P, T, R, F, W, nF, nW, H, C, O, Lf, K, r0, r1, r2, r3, r4) (nI a) x2 x3 x4) :
  wpX_send post (d, nI c, L, db, S, G, N, B, P, T, R, F, W, nF, nW, H, C, O, Lf, K, r0, r1, r2, r3, r4) (nI a) x2 x3 x4 := by
  refine ⟨17, mm_w_fate_l ha b0 hb0 hK ?_ 16 0 3 O Lf rfl (by omega) (fun z => absurd z (by omega)) (fun j hj => absurd hj (by omega)) (fun j _ hj => hO j hj)⟩
  intro f O Lf hf hf3 hO'
  have hk : τ a ≤ 20 → ∀ i, i < 16 → r0 i = 0 → ∀ j, j < 16 → mm_lt Z q (upd r0 i 3) (upd r1 i (nI a)) (upd r2 i x2) (upd r3 i x3) j := by
    intro ht i hi _ j hj
    by_cases e : j = i
    · subst e
      refine ⟨3, by omega, pk_us, Or.inr ⟨hq ht, ?_⟩⟩
      rw [pk_us, pk_us, pk_us]
      exact hZ
    · unfold mm_lt
      rw [pk_un e, pk_un e, pk_un e, pk_un e]
      exact hT j hj
  rcases (by omega : f = 0 ∨ f = 1 ∨ f = 2 ∨ f = 3) with rfl | rfl | rfl | rfl
  · exact br_f (by decide) (br_f (by decide) (br_f (by decide) (br_f (by decide) (hN O Lf r0 r1 r2 r3 r4 hO' hT (hf3 (by omega))))))
  · refine br_t rfl ⟨17, mm_w_keep_l ?_ ?_ 16 0 rfl⟩
    · exact br_t rfl (hD O Lf r0 r1 r2 r3 r4 hO' hT)
    · intro i hi hz
      exact br_t rfl (hD O Lf _ _ _ _ _ hO' (hk (hf3 (by omega)) i hi hz))
  · refine br_f (by decide) (br_t rfl ⟨17, mm_w_keep_l ?_ ?_ 16 0 rfl⟩)
    · exact br_f (by decide) (br_f (by decide) (hN O Lf r0 r1 r2 r3 r4 hO' hT (hf3 (by omega))))
    · intro i hi hz
      exact br_f (by decide) (br_f (by decide) (hN O Lf _ _ _ _ _ hO' (hk (hf3 (by omega)) i hi hz) (hf3 (by omega))))
  · exact br_f (by decide) (br_f (by decide) (br_f (by decide) (br_t rfl (hD O Lf r0 r1 r2 r3 r4 hO' hT))))
end
end
section
abbrev mm_n (x : Int32) : Nat := x.toNatClampNeg
theorem mm_nI {k : Nat} (h : k < 2 ^ 31) : mm_n (nI k) = k := nI_clamp h
def mm_HD (c : Nat) (S G N : Nat → Int32) : Prop := ∀ m, m < c → S m = nI (mm_n (S m)) ∧ mm_n (S m) < 8 ∧ G m = nI (mm_n (G m)) ∧ mm_n (G m) < 8 ∧ mm_n (S m) ≠ mm_n (G m) ∧ N m = nI (mm_n (N m)) ∧ mm_n (N m) < 9
def mm_MI (c : Nat) (L S G N T : Nat → Int32) (Q : Nat → Nat → Nat → Prop) (P R C : Nat → Int32) : Prop :=
  (∀ a m p, a < 8 → m < 16 → bt (C (a * 16 + m)) p = true → Q a m p) ∧
  (∀ m, m < c → T m = 0 → ∀ p, bt (P m) p = true → bt (mm_al (N m)) p = true ∧ mm_cn L (mm_n (S m)) (mm_n (G m))) ∧
  (∀ m, m < c → R m = 0 ∨ T m = 1)
def mm_gd (c : Nat) (L S G N T : Nat → Int32) (Q : Nat → Nat → Nat → Prop) (n m p : Nat) : Prop :=
  m < c ∧ (p = 8 → T m = 1 ∧ (n ≠ mm_n (S m) → Q n m 8)) ∧
  (p < 8 → (n = mm_n (G m) → (T m = 0 → bt (mm_al (N m)) p = true ∧ mm_cn L (mm_n (S m)) (mm_n (G m))) ∧ (¬ T m = 0 → Q n m 8)) ∧ (n ≠ mm_n (G m) → Q n m p))
def mm_okl (c : Nat) (L S N T : Nat → Int32) (n m p : Nat) : Prop := m < c ∧ mm_cn L (mm_n (S m)) n ∧ (p < 8 → bt (mm_al (N m)) p = true) ∧ (p = 8 → T m = 1)
def mm_Z (c : Nat) (L S N T : Nat → Int32) (x1 x2 x3 : Int32) : Prop := ∃ fr to, fr < 8 ∧ to < 8 ∧ x1 = nI fr ∧ x2 = nI to ∧ (x3 = 144 ∨ ∃ m p, p < 9 ∧ x3 = nI (m * 9 + p) ∧ mm_okl c L S N T to m p)
def mm_NF (nF nW : Nat → Int32) : Prop := ∀ a b, a < 8 → b < 8 → nF (a * 8 + b) = nI (mm_n (nF (a * 8 + b))) ∧ (a = b → mm_n (nF (a * 8 + b)) = 0) ∧ (a ≠ b → 1 ≤ mm_n (nF (a * 8 + b)) ∧ mm_n (nF (a * 8 + b)) ≤ 8) ∧ (nW (a * 8 + b) = -1 ∨ ∃ e, e < 8 ∧ nW (a * 8 + b) = nI e)
theorem mm_nibE (told : Int32) (b : Nat) : ∃ v, v < 16 ∧ mm_nib told b = nI v := pk_andE _ 4 (by decide)
theorem mm_NF_hr {nF nW nF' nW' : Nat → Int32} {fr to : Nat} {told : Int32} (hfr : fr < 8) (h : mm_NF nF nW)
  (h1 : ∀ j, ¬ (to * 8 ≤ j ∧ j < to * 8 + 8) → nF' j = nF j ∧ nW' j = nW j) (h2 : ∀ b, b < 8 → mm_hr (nI fr) told nF nW nF' nW' (to * 8 + b) b) : mm_NF nF' nW' := by
  intro a b ha hb
  have h0 := h a b ha hb
  by_cases e : a = to
  · subst e
    rcases h2 b hb with ⟨_, e1, e2⟩ | ⟨hn, e1, e2⟩
    · rw [e1, e2]; exact h0
    · obtain ⟨v, hv, ev⟩ := mm_nibE told b
      rw [ev, nI_1] at hn e1
      rw [e1, e2, mm_nI (k := v + 1) (by omega)]
      rw [h0.1, nI_leI (by have := h0.2.1; have := h0.2.2.1; by_cases z : a = b <;> omega) (by omega)] at hn
      refine ⟨rfl, fun z => ?_, fun z => ?_, Or.inr ⟨fr, hfr, rfl⟩⟩
      · have := h0.2.1 z; omega
      · have := h0.2.2.1 z; omega
  · have := h1 (a * 8 + b) (by omega)
    rw [this.1, this.2]; exact h0
section
variable {d : Int32} {c : Nat} {L db S G N B P T R F W nF nW H C O Lf K r0 r1 r2 r3 r4 : Nat → Int32} {post : SX → Prop} {Q : Nat → Nat → Nat → Prop}
theorem mm_MI_R {m : Nat} (h : mm_MI c L S G N T Q P R C) (hT : T m = 1) : mm_MI c L S G N T Q P (upd R m 1) C := by
  refine ⟨h.1, h.2.1, fun i hi => ?_⟩
  by_cases e : i = m
  · subst e; exact Or.inr hT
  · rw [pk_un e]; exact h.2.2 i hi
theorem mm_MI_P {m p : Nat} (hp : p < 32) (h : mm_MI c L S G N T Q P R C) (hG : T m = 0 → bt (mm_al (N m)) p = true ∧ mm_cn L (mm_n (S m)) (mm_n (G m))) : mm_MI c L S G N T Q (upd P m (P m ||| ((1 : Int32) <<< (nI p &&& 31)))) R C := by
  refine ⟨h.1, fun i hi hT q hq => ?_, h.2.2⟩
  rcases (mm_ob hp).mp hq with z | ⟨e, e2⟩
  · exact h.2.1 i hi hT q z
  · subst e; subst e2; exact hG hT
theorem mm_MI_C {n m p : Nat} (hp : p < 32) (hm : m < 16) (h : mm_MI c L S G N T Q P R C) (hq : Q n m p) : mm_MI c L S G N T Q P R (upd C (n * 16 + m) (C (n * 16 + m) ||| ((1 : Int32) <<< (nI p &&& 31)))) := by
  refine ⟨fun a i q ha hi hb => ?_, h.2.1, h.2.2⟩
  rcases (mm_ob hp).mp hb with z | ⟨e, e2⟩
  · exact h.1 a i q ha hi z
  · have : a = n ∧ i = m := by omega
    rw [this.1, this.2, e2]; exact hq
def mm_D (G P C : Nat → Int32) (n m p : Nat) : Prop := (n = mm_n (G m) → bt (P m) p = true) ∧ (n ≠ mm_n (G m) → bt (C (n * 16 + m)) p = true)
theorem mm_w_dl {n m p : Nat} {x1 told : Int32} (hc : c ≤ 16) (hH : mm_HD c S G N) (hn : n < 8) (hp : p < 9) (hM : mm_MI c L S G N T Q P R C) (hg : mm_gd c L S G N T Q n m p)
  (hpo : ∀ P' R' C' : Nat → Int32, mm_MI c L S G N T Q P' R' C' → (∀ i q, bt (P i) q = true → bt (P' i) q = true) → (∀ i q, bt (C i) q = true → bt (C' i) q = true) → (p < 8 → mm_D G P' C' n m p) → post (d, nI c, L, db, S, G, N, B, P', T, R', F, W, nF, nW, H, C', O, Lf, K, r0, r1, r2, r3, r4)) :
  wpX_handOver post (d, nI c, L, db, S, G, N, B, P, T, R, F, W, nF, nW, H, C, O, Lf, K, r0, r1, r2, r3, r4) x1 (nI n) (nI (m * 9 + p)) told := by
  obtain ⟨hm, hg8, hgd⟩ := hg
  obtain ⟨eS, hs, eG, hgl, hne, eN, hN⟩ := hH m hm
  refine mm_w_ho_p hn (by omega) hp hs hgl eS eG (fun e8 en => ?_) (fun l8 en hT => ?_) (fun l8 en hT => ?_) (fun z1 z2 => ?_)
  · exact hpo P (upd R m 1) C (mm_MI_R hM (hg8 e8).1) (fun _ _ z => z) (fun _ _ z => z) (fun z => absurd z (by omega))
  · refine hpo (upd P m (P m ||| ((1 : Int32) <<< (nI p &&& 31)))) R C (mm_MI_P (by omega) hM ((hgd l8).1 en).1) (fun i q z => (mm_ob (by omega)).mpr (Or.inl z)) (fun _ _ z => z) (fun _ => ⟨fun _ => (mm_ob (by omega)).mpr (Or.inr ⟨rfl, rfl⟩), fun z => absurd en z⟩)
  · refine hpo (upd P m (P m ||| ((1 : Int32) <<< (nI p &&& 31)))) R (upd C (n * 16 + m) (C (n * 16 + m) ||| ((1 : Int32) <<< (nI 8 &&& 31)))) (mm_MI_C (by omega) (by omega) (mm_MI_P (by omega) hM ((hgd l8).1 en).1) (((hgd l8).1 en).2 hT)) (fun i q z => (mm_ob (by omega)).mpr (Or.inl z)) (fun i q z => (mm_ob (by omega)).mpr (Or.inl z)) (fun _ => ⟨fun _ => (mm_ob (by omega)).mpr (Or.inr ⟨rfl, rfl⟩), fun z => absurd en z⟩)
  · have hq : Q n m p := by
      by_cases e8 : p = 8
      · subst e8; exact (hg8 rfl).2 (z1 rfl)
      · exact (hgd (by omega)).2 (z2 (by omega))
    exact hpo P R (upd C (n * 16 + m) (C (n * 16 + m) ||| ((1 : Int32) <<< (nI p &&& 31)))) (mm_MI_C (by omega) (by omega) hM hq) (fun _ _ z => z) (fun i q z => (mm_ob (by omega)).mpr (Or.inl z)) (fun l8 => ⟨fun z => absurd z (z2 l8), fun _ => (mm_ob (by omega)).mpr (Or.inr ⟨rfl, rfl⟩)⟩)
theorem mm_w_late_l {t : Nat} (hc : c ≤ 16) (hH : mm_HD c S G N) (hZ : t < 24 → ∀ n m p, n < 8 → p < 9 → mm_okl c L S N T n m p → mm_gd c L S G N T Q n m p)
  (P0 R0 C0 nF0 nW0 : Nat → Int32)
  (hp : ∀ P R nF nW C r0 : Nat → Int32, mm_MI c L S G N T Q P R C → mm_NF nF nW → (∀ i, i < 16 → mm_lt (mm_Z c L S N T) (t + 1) r0 r1 r2 r3 i) → (24 ≤ t → P = P0 ∧ R = R0 ∧ C = C0 ∧ nF = nF0 ∧ nW = nW0) → post (d, nI c, L, db, S, G, N, B, P, T, R, F, W, nF, nW, H, C, O, Lf, K, r0, r1, r2, r3, r4)) :
  ∀ (k i : Nat) (P R nF nW C r0 : Nat → Int32), i + k = 16 → mm_MI c L S G N T Q P R C → mm_NF nF nW → (∀ j, j < i → mm_lt (mm_Z c L S N T) (t + 1) r0 r1 r2 r3 j) → (∀ j, i ≤ j → j < 16 → mm_lt (mm_Z c L S N T) t r0 r1 r2 r3 j) → (24 ≤ t → P = P0 ∧ R = R0 ∧ C = C0 ∧ nF = nF0 ∧ nW = nW0) → wX_bringLatePieces_2 post (k + 1) (nI i) d (nI c) L db S G N B P T R F W nF nW H C O Lf K r0 r1 r2 r3 r4 := by
  intro k
  induction k with
  | zero =>
    intro i P R nF nW C r0 hi h1 h2 h3 h4 h5
    have : i = 16 := by omega
    subst this
    exact br_t (by decide) (hp P R nF nW C r0 h1 h2 h3 h5)
  | succ k ih =>
    intro i P R nF nW C r0 hi h1 h2 h3 h4 h5
    have hi16 : i < 16 := by omega
    have hin : vp_in (nI i) 16 := vp_in_nI hi16 (by decide)
    refine br_f (nI_ge (b := 16) hi16 (by decide)) ⟨hin, ?_⟩
    rw [nI_clamp (n := i) (by omega)]
    obtain ⟨r, hr, er, hrr⟩ := h4 i (Nat.le_refl i) hi16
    rw [er]
    refine pk_le r 0 (fun e => nm_r (nI_1 i) (ih (i + 1) P R nF nW C r0 (by omega) h1 h2 ?_ (fun j hj hj2 => h4 j (by omega) hj2) h5)) (fun e => ⟨hin, hin, nm_e ⟨hin, ?_⟩⟩)
    · intro j hj
      by_cases ej : j = i
      · subst ej
        exact ⟨r, hr, er, Or.inl (by omega)⟩
      · exact h3 j (by omega)
    · rcases hrr with z | ⟨hrt, hz⟩
      · omega
      have e1 : nI r - 1 = nI (r - 1) := pk_sub (b := 1) (by omega)
      rw [pk_us, e1]
      have h3' : ∀ j, j < i + 1 → mm_lt (mm_Z c L S N T) (t + 1) (upd r0 i (nI (r - 1))) r1 r2 r3 j := by
        intro j hj
        by_cases ej : j = i
        · subst ej
          exact ⟨r - 1, by omega, pk_us, Or.inr ⟨by omega, hz⟩⟩
        · unfold mm_lt
          rw [pk_un ej]
          exact h3 j (by omega)
      have h4' : ∀ j, i + 1 ≤ j → j < 16 → mm_lt (mm_Z c L S N T) t (upd r0 i (nI (r - 1))) r1 r2 r3 j := by
        intro j hj hj2
        unfold mm_lt
        rw [pk_un (by omega)]
        exact h4 j (by omega) hj2
      refine pk_eq (r - 1) 0 (fun e0 => ⟨hin, hin, hin, hin, ?_⟩) (fun e0 => nm_r (nI_1 i) (ih (i + 1) P R nF nW C _ (by omega) h1 h2 h3' h4' (fun z => absurd z (by omega))))
      obtain ⟨fr, to, hfr, hto, ef, et, hpc⟩ := hz
      rw [ef, et]
      rcases hpc with e144 | ⟨m, p, hp9, e9, hok⟩
      · rw [e144]
        exact mm_w_ho_w hto (fun nF' nW' g1 g2 => nm_r (nI_1 i) (ih (i + 1) P R nF' nW' C _ (by omega) h1 (mm_NF_hr hfr h2 g1 g2) h3' h4' (fun z => absurd z (by omega))))
      · rw [e9]
        exact mm_w_dl hc hH hto hp9 h1 (hZ (by omega) to m p hto hp9 hok) (fun P' R' C' g1 _ _ _ => nm_r (nI_1 i) (ih (i + 1) P' R' nF nW C' _ (by omega) g1 h2 h3' h4' (fun z => absurd z (by omega))))
theorem mm_w_late {t : Nat} (hc : c ≤ 16) (hH : mm_HD c S G N) (hZ : t < 24 → ∀ n m p, n < 8 → p < 9 → mm_okl c L S N T n m p → mm_gd c L S G N T Q n m p)
  (h1 : mm_MI c L S G N T Q P R C) (h2 : mm_NF nF nW) (h3 : ∀ j, j < 16 → mm_lt (mm_Z c L S N T) t r0 r1 r2 r3 j)
  (hp : ∀ P' R' nF' nW' C' r0' : Nat → Int32, mm_MI c L S G N T Q P' R' C' → mm_NF nF' nW' → (∀ i, i < 16 → mm_lt (mm_Z c L S N T) (t + 1) r0' r1 r2 r3 i) → (24 ≤ t → P' = P ∧ R' = R ∧ C' = C ∧ nF' = nF ∧ nW' = nW) → post (d, nI c, L, db, S, G, N, B, P', T, R', F, W, nF', nW', H, C', O, Lf, K, r0', r1, r2, r3, r4)) :
  wpX_bringLatePieces post (d, nI c, L, db, S, G, N, B, P, T, R, F, W, nF, nW, H, C, O, Lf, K, r0, r1, r2, r3, r4) :=
  ⟨17, mm_w_late_l hc hH hZ P R C nF nW hp 16 0 P R nF nW C r0 rfl h1 h2 (fun j hj => absurd hj (by omega)) (fun j _ hj => h3 j hj) (fun _ => ⟨rfl, rfl, rfl, rfl, rfl⟩)⟩
theorem mm_w_all {po : Int32 → Prop} {m : Nat} (hm : m < 16) (h : po (mm_al (N m))) : wpX_allPieces po (d, nI c, L, db, S, G, N, B, P, T, R, F, W, nF, nW, H, C, O, Lf, K, r0, r1, r2, r3, r4) (nI m) := by
  have hin : vp_in (nI m) 16 := vp_in_nI hm (by decide)
  refine ⟨hin, ?_⟩
  rw [nI_clamp (n := m) (by omega)]
  unfold mm_al at h
  exact br_c (fun e => by rw [if_pos e] at h; exact h) (fun e => ⟨hin, by rw [if_neg e] at h; exact h⟩)
theorem mm_w_up_l (hc : c ≤ 16) (hH : mm_HD c S G N) (H0 : Nat → Int32)
  (hp : ∀ H : Nat → Int32, (∀ a m p, a < 8 → m < 16 → (bt (H (a * 16 + m)) p = true ↔ (bt (H0 (a * 16 + m)) p = true ∨ (m < c ∧ a = mm_n (S m) ∧ R m = 0 ∧ bt (mm_al (N m)) p = true)))) → post (d, nI c, L, db, S, G, N, B, P, T, R, F, W, nF, nW, H, C, O, Lf, K, r0, r1, r2, r3, r4)) :
  ∀ (k i : Nat) (H : Nat → Int32), i + k = c → (∀ a m p, a < 8 → m < 16 → (bt (H (a * 16 + m)) p = true ↔ (bt (H0 (a * 16 + m)) p = true ∨ (m < i ∧ a = mm_n (S m) ∧ R m = 0 ∧ bt (mm_al (N m)) p = true)))) → wX_takeUpWaiting_2 post d (nI c) (k + 1) (nI i) L db S G N B P T R F W nF nW H C O Lf K r0 r1 r2 r3 r4 := by
  intro k
  induction k with
  | zero =>
    intro i H hi h1
    have : i = c := by omega
    subst this
    exact br_t (nI_le (Nat.le_refl i) (by omega)) (hp H h1)
  | succ k ih =>
    intro i H hi h1
    have hi16 : i < 16 := by omega
    have hin : vp_in (nI i) 16 := vp_in_nI hi16 (by decide)
    refine br_f (nI_ge (by omega) (by omega)) ⟨hin, ?_⟩
    rw [nI_clamp (n := i) (by omega)]
    obtain ⟨eS, hs, -⟩ := hH i (by omega)
    refine br_c (fun e => ⟨hin, ?_⟩) (fun e => nm_r (nI_1 i) (ih (i + 1) H (by omega) ?_))
    · rw [eS]
      refine ⟨pk_in (mm_n (S i) * 16 + i) 128 (by omega) (mm_i16 _ i), mm_w_all hi16 ⟨pk_in (mm_n (S i) * 16 + i) 128 (by omega) (mm_i16 _ i), nm_e (nm_r (nI_1 i) ?_)⟩⟩
      rw [pk_cl (mm_n (S i) * 16 + i) (mm_i16 _ i)]
      refine ih (i + 1) _ (by omega) ?_
      intro a m p ha hm
      by_cases ek : a * 16 + m = mm_n (S i) * 16 + i
      · have : a = mm_n (S i) ∧ m = i := by omega
        obtain ⟨rfl, rfl⟩ := this
        rw [pk_us, b_or, Bool.or_eq_true, h1 _ m p ha hm]
        constructor
        · rintro ((z | z) | z)
          · exact Or.inl z
          · exact absurd z.1 (by omega)
          · exact Or.inr ⟨by omega, rfl, e, z⟩
        · rintro (z | z)
          · exact Or.inl (Or.inl z)
          · exact Or.inr z.2.2.2
      · rw [pk_un ek, h1 a m p ha hm]
        constructor
        · rintro (z | z)
          · exact Or.inl z
          · exact Or.inr ⟨by omega, z.2⟩
        · rintro (z | z)
          · exact Or.inl z
          · refine Or.inr ⟨?_, z.2⟩
            have : m ≠ i := by
              intro e2
              subst e2
              exact ek (by rw [z.2.1])
            omega
    · intro a m p ha hm
      rw [h1 a m p ha hm]
      constructor
      · rintro (z | z)
        · exact Or.inl z
        · exact Or.inr ⟨by omega, z.2⟩
      · rintro (z | z)
        · exact Or.inl z
        · refine Or.inr ⟨?_, z.2⟩
          have : m ≠ i := by
            intro e2
            subst e2
            exact e z.2.2.1
          omega
theorem mm_w_up (hc : c ≤ 16) (hH : mm_HD c S G N)
  (hp : ∀ H' : Nat → Int32, (∀ a m p, a < 8 → m < 16 → (bt (H' (a * 16 + m)) p = true ↔ (bt (H (a * 16 + m)) p = true ∨ (m < c ∧ a = mm_n (S m) ∧ R m = 0 ∧ bt (mm_al (N m)) p = true)))) → post (d, nI c, L, db, S, G, N, B, P, T, R, F, W, nF, nW, H', C, O, Lf, K, r0, r1, r2, r3, r4)) :
  wpX_takeUpWaiting post (d, nI c, L, db, S, G, N, B, P, T, R, F, W, nF, nW, H, C, O, Lf, K, r0, r1, r2, r3, r4) :=
  ⟨c + 1, mm_w_up_l hc hH H hp c 0 H (by omega) (fun a m p _ _ => ⟨fun z => Or.inl z, fun z => z.elim id (fun z => absurd z.1 (by omega))⟩)⟩
theorem mm_w_beg36 (hp : ∀ nF nW : Nat → Int32, (∀ j, j < 64 → nF j = (if j / 8 = j % 8 then 0 else 8) ∧ nW j = -1) → post (d, nI c, L, db, S, G, N, B, P, T, R, F, W, nF, nW, H, C, O, Lf, K, r0, r1, r2, r3, r4)) :
  ∀ (k i : Nat) (nF nW : Nat → Int32), i + k = 64 → (∀ j, j < i → nF j = (if j / 8 = j % 8 then 0 else 8) ∧ nW j = -1) → wX_beginRound_36 post d (nI c) (k + 1) (nI i) L db S G N B P T R F W nF nW H C O Lf K r0 r1 r2 r3 r4 := by
  intro k
  induction k with
  | zero =>
    intro i nF nW hi h1
    have : i = 64 := by omega
    subst this
    exact br_t (by decide) (hp nF nW h1)
  | succ k ih =>
    intro i nF nW hi h1
    have hin : vp_in (nI i) 64 := vp_in_nI (by omega) (by decide)
    refine br_f (nI_ge (b := 64) (by omega) (by decide)) ⟨by decide, by decide, ?_⟩
    have e1 : nI i / 8 = nI (i / 8) := by rw [mm_8, pk_div (by omega) (by omega) (by omega)]
    have e2 : nI i - nI i / 8 * 8 = nI (i % 8) := by rw [mm_8, pk_rem (by omega) (by omega) (by omega)]
    rw [e2, e1]
    refine pk_eq (i / 8) (i % 8) (fun e => ⟨hin, nm_e ⟨hin, nm_e (nm_r (nI_1 i) ?_)⟩⟩) (fun e => ⟨hin, nm_e ⟨hin, nm_e (nm_r (nI_1 i) ?_)⟩⟩)
    · rw [nI_clamp (n := i) (by omega)]
      refine ih (i + 1) _ _ (by omega) (fun j hj => ?_)
      by_cases ej : j = i
      · subst ej
        rw [pk_us, pk_us, if_pos e]; exact ⟨rfl, rfl⟩
      · rw [pk_un ej, pk_un ej]; exact h1 j (by omega)
    · rw [nI_clamp (n := i) (by omega)]
      refine ih (i + 1) _ _ (by omega) (fun j hj => ?_)
      by_cases ej : j = i
      · subst ej
        rw [pk_us, pk_us, if_neg e]; exact ⟨rfl, rfl⟩
      · rw [pk_un ej, pk_un ej]; exact h1 j (by omega)
theorem mm_w_beg2 (C0 : Nat → Int32) (hp : ∀ nF nW H C : Nat → Int32, (∀ j, j < 64 → nF j = (if j / 8 = j % 8 then 0 else 8) ∧ nW j = -1) → (∀ j, j < 128 → H j = C0 j ∧ C j = 0) → post (d, nI c, L, db, S, G, N, B, P, T, R, F, W, nF, nW, H, C, O, Lf, K, r0, r1, r2, r3, r4)) :
  ∀ (k i : Nat) (H C : Nat → Int32), i + k = 128 → (∀ j, j < i → H j = C0 j ∧ C j = 0) → (∀ j, i ≤ j → C j = C0 j) → wX_beginRound_2 post d (nI c) (k + 1) (nI i) L db S G N B P T R F W nF nW H C O Lf K r0 r1 r2 r3 r4 := by
  intro k
  induction k with
  | zero =>
    intro i H C hi h1 h2
    have : i = 128 := by omega
    subst this
    exact br_t (by decide) ⟨65, mm_w_beg36 (fun nF nW z => hp nF nW H C z h1) 64 0 nF nW rfl (fun j hj => absurd hj (by omega))⟩
  | succ k ih =>
    intro i H C hi h1 h2
    have hin : vp_in (nI i) 128 := vp_in_nI (by omega) (by decide)
    refine br_f (nI_ge (b := 128) (by omega) (by decide)) ⟨hin, hin, nm_e ⟨hin, nm_e (nm_r (nI_1 i) ?_)⟩⟩
    rw [nI_clamp (n := i) (by omega)]
    refine ih (i + 1) _ _ (by omega) (fun j hj => ?_) (fun j hj => ?_)
    · by_cases ej : j = i
      · subst ej
        rw [pk_us, pk_us]; exact ⟨h2 j (Nat.le_refl j), rfl⟩
      · rw [pk_un ej, pk_un ej]; exact h1 j (by omega)
    · rw [pk_un (by omega)]; exact h2 j (by omega)
theorem mm_w_beg (hp : ∀ nF' nW' H' C' : Nat → Int32, (∀ j, j < 64 → nF' j = (if j / 8 = j % 8 then 0 else 8) ∧ nW' j = -1) → (∀ j, j < 128 → H' j = C j ∧ C' j = 0) → post (d, nI c, L, db, S, G, N, B, P, T, R, F, W, nF', nW', H', C', O, Lf, K, r0, r1, r2, r3, r4)) :
  wpX_beginRound post (d, nI c, L, db, S, G, N, B, P, T, R, F, W, nF, nW, H, C, O, Lf, K, r0, r1, r2, r3, r4) :=
  ⟨129, mm_w_beg2 C hp 128 0 H C rfl (fun j hj => absurd hj (by omega)) (fun _ _ => rfl)⟩
theorem mm_w_bel_l (hp : ∀ F W : Nat → Int32, (∀ j, j < 64 → F j = nF j ∧ W j = nW j) → post (d, nI c, L, db, S, G, N, B, P, T, R, F, W, nF, nW, H, C, O, Lf, K, r0, r1, r2, r3, r4)) :
  ∀ (k i : Nat) (F W : Nat → Int32), i + k = 64 → (∀ j, j < i → F j = nF j ∧ W j = nW j) → wX_believeWhatWasTold_2 post d (nI c) (k + 1) (nI i) L db S G N B P T R F W nF nW H C O Lf K r0 r1 r2 r3 r4 := by
  intro k
  induction k with
  | zero =>
    intro i F W hi h1
    have : i = 64 := by omega
    subst this
    exact br_t (by decide) (hp F W h1)
  | succ k ih =>
    intro i F W hi h1
    have hin : vp_in (nI i) 64 := vp_in_nI (by omega) (by decide)
    refine br_f (nI_ge (b := 64) (by omega) (by decide)) ⟨hin, hin, nm_e ⟨hin, hin, nm_e (nm_r (nI_1 i) ?_)⟩⟩
    rw [nI_clamp (n := i) (by omega)]
    refine ih (i + 1) _ _ (by omega) (fun j hj => ?_)
    by_cases ej : j = i
    · subst ej
      rw [pk_us, pk_us]; exact ⟨rfl, rfl⟩
    · rw [pk_un ej, pk_un ej]; exact h1 j (by omega)
theorem mm_w_bel (hp : ∀ F' W' : Nat → Int32, (∀ j, j < 64 → F' j = nF j ∧ W' j = nW j) → post (d, nI c, L, db, S, G, N, B, P, T, R, F', W', nF, nW, H, C, O, Lf, K, r0, r1, r2, r3, r4)) : wpX_believeWhatWasTold post (d, nI c, L, db, S, G, N, B, P, T, R, F, W, nF, nW, H, C, O, Lf, K, r0, r1, r2, r3, r4) :=
  ⟨65, mm_w_bel_l hp 64 0 F W rfl (fun j hj => absurd hj (by omega))⟩
end
end
