def mm_wl (L : Nat → Int32) : Nat → Nat → Nat → Prop
  | 0, a, b => a = b
  | n + 1, a, b => mm_wl L n a b ∨ ∃ c, c < 8 ∧ mm_wl L n a c ∧ bt (L c) b = true
def mm_LK (L : Nat → Int32) : Prop := ∀ a, a < 8 → ∀ b, bt (L a) b = true → b < 8 ∧ b ≠ a ∧ bt (L b) a = true
def mm_cn (L : Nat → Int32) (a b : Nat) : Prop := ∃ n, mm_wl L n a b
section
variable {L : Nat → Int32}
theorem mm_wl_lt (h : mm_LK L) : ∀ (n : Nat) {a b : Nat}, a < 8 → mm_wl L n a b → b < 8 := by
  intro n
  induction n with
  | zero => intro a b ha hw; cases hw; exact ha
  | succ n ih =>
    intro a b ha hw
    rcases hw with hw | ⟨c, hc, _, hb⟩
    · exact ih ha hw
    · exact (h c hc b hb).1
theorem mm_wl_up {n k : Nat} {a b : Nat} (h : n ≤ k) (hw : mm_wl L n a b) : mm_wl L k a b := by
  induction k with
  | zero =>
    have : n = 0 := by omega
    subst this; exact hw
  | succ k ih =>
    rcases Nat.lt_or_ge n (k + 1) with h1 | h1
    · exact Or.inl (ih (by omega))
    · have : n = k + 1 := by omega
      subst this; exact hw
theorem mm_wl_rf (n a : Nat) : mm_wl L n a a := mm_wl_up (Nat.zero_le n) (show mm_wl L 0 a a from rfl)
theorem mm_wl_hd : ∀ (n : Nat) {a b c : Nat}, a < 8 → c < 8 → bt (L a) c = true → mm_wl L n c b → mm_wl L (n + 1) a b := by
  intro n
  induction n with
  | zero => intro a b c ha hc hac hw; cases hw; exact Or.inr ⟨a, ha, rfl, hac⟩
  | succ n ih =>
    intro a b c ha hc hac hw
    rcases hw with hw | ⟨e, he, hw, heb⟩
    · exact Or.inl (ih ha hc hac hw)
    · exact Or.inr ⟨e, he, ih ha hc hac hw, heb⟩
theorem mm_wl_tl (h : mm_LK L) : ∀ (n : Nat) {a b : Nat}, a < 8 → mm_wl L (n + 1) a b → a = b ∨ ∃ c, c < 8 ∧ bt (L a) c = true ∧ mm_wl L n c b := by
  intro n
  induction n with
  | zero =>
    intro a b ha hw
    rcases hw with hw | ⟨c, hc, hw, hb⟩
    · exact Or.inl hw
    · cases hw
      exact Or.inr ⟨b, (h a ha b hb).1, hb, rfl⟩
  | succ n ih =>
    intro a b ha hw
    rcases hw with hw | ⟨e, he, hw, hb⟩
    · rcases ih ha hw with h1 | ⟨c, hc, h1, h2⟩
      · exact Or.inl h1
      · exact Or.inr ⟨c, hc, h1, Or.inl h2⟩
    · rcases ih ha hw with h1 | ⟨c, hc, h1, h2⟩
      · cases h1
        exact Or.inr ⟨b, (h a ha b hb).1, hb, mm_wl_rf _ _⟩
      · exact Or.inr ⟨c, hc, h1, Or.inr ⟨e, he, h2, hb⟩⟩
theorem mm_wl_sy (h : mm_LK L) : ∀ (n : Nat) {a b : Nat}, a < 8 → mm_wl L n a b → mm_wl L n b a := by
  intro n
  induction n with
  | zero => intro a b ha hw; cases hw; exact rfl
  | succ n ih =>
    intro a b ha hw
    rcases hw with hw | ⟨c, hc, hw, hb⟩
    · exact Or.inl (ih ha hw)
    · have hl := h c hc b hb
      exact mm_wl_hd n hl.1 hc hl.2.2 (ih ha hw)
end
noncomputable def mm_ct (p : Nat → Prop) : Nat → Nat
  | 0 => 0
  | k + 1 => mm_ct p k + @ite Nat (p k) (Classical.propDecidable _) 1 0
theorem mm_ct_le (p : Nat → Prop) (k : Nat) : mm_ct p k ≤ k := by
  induction k with
  | zero => exact Nat.le_refl 0
  | succ k ih =>
    unfold mm_ct
    by_cases h : p k
    · rw [if_pos h]; omega
    · rw [if_neg h]; omega
theorem mm_ct_mo {p q : Nat → Prop} (k : Nat) (h : ∀ b, b < k → p b → q b) : mm_ct p k ≤ mm_ct q k := by
  induction k with
  | zero => exact Nat.le_refl 0
  | succ k ih =>
    unfold mm_ct
    have h1 := ih (fun b hb => h b (by omega))
    by_cases hp : p k
    · rw [if_pos hp, if_pos (h k (by omega) hp)]; omega
    · rw [if_neg hp]; omega
theorem mm_ct_st {p q : Nat → Prop} (k : Nat) (h : ∀ b, b < k → p b → q b) (b : Nat) (hb : b < k) (hq : q b) (hp : ¬ p b) : mm_ct p k < mm_ct q k := by
  induction k with
  | zero => omega
  | succ k ih =>
    unfold mm_ct
    have h1 := mm_ct_mo k (fun b hb => h b (by omega))
    by_cases hbk : b = k
    · subst hbk
      rw [if_neg hp, if_pos hq]; omega
    · have h2 := ih (fun b hb => h b (by omega)) (by omega)
      by_cases hpk : p k
      · rw [if_pos hpk, if_pos (h k (by omega) hpk)]; omega
      · rw [if_neg hpk]; omega
section
variable {L : Nat → Int32}
theorem mm_stb {n a : Nat} (h : ∀ b, mm_wl L (n + 1) a b → mm_wl L n a b) : ∀ (k b : Nat), mm_wl L (n + k) a b → mm_wl L n a b := by
  intro k
  induction k with
  | zero => intro b hw; exact hw
  | succ k ih =>
    intro b hw
    rcases hw with hw | ⟨c, hc, hw, hb⟩
    · exact ih b hw
    · exact h b (Or.inr ⟨c, hc, ih c hw, hb⟩)
theorem mm_gro {a : Nat} (ha : a < 8) : ∀ n, (∀ j, j < n → ∃ b, b < 8 ∧ mm_wl L (j + 1) a b ∧ ¬ mm_wl L j a b) → n + 1 ≤ mm_ct (mm_wl L n a) 8 := by
  intro n
  induction n with
  | zero =>
    intro _
    have := mm_ct_st (p := fun _ => False) (q := mm_wl L 0 a) 8 (fun _ _ z => z.elim) a ha rfl id
    omega
  | succ n ih =>
    intro h
    have h1 := ih (fun j hj => h j (by omega))
    obtain ⟨b, hb, h2, h3⟩ := h n (by omega)
    have := mm_ct_st (p := mm_wl L n a) (q := mm_wl L (n + 1) a) 8 (fun _ _ z => Or.inl z) b hb h2 h3
    omega
theorem mm_pig (h : mm_LK L) {n a b : Nat} (ha : a < 8) (hw : mm_wl L n a b) : mm_wl L 7 a b := by
  have h1 : ∃ j, j < 8 ∧ ∀ b, mm_wl L (j + 1) a b → mm_wl L j a b := by
    apply Classical.byContradiction
    intro hn
    have h2 : ∀ j, j < 8 → ∃ b, b < 8 ∧ mm_wl L (j + 1) a b ∧ ¬ mm_wl L j a b := by
      intro j hj
      apply Classical.byContradiction
      intro hm
      apply hn
      refine ⟨j, hj, fun b hb => ?_⟩
      apply Classical.byContradiction
      intro hc
      exact hm ⟨b, mm_wl_lt h _ ha hb, hb, hc⟩
    have h3 := mm_gro ha 8 h2
    have h4 := mm_ct_le (mm_wl L 8 a) 8
    omega
  obtain ⟨j, hj, hs⟩ := h1
  rcases Nat.lt_or_ge n j with h5 | h5
  · exact mm_wl_up (by omega) hw
  · have e : n = j + (n - j) := by omega
    rw [e] at hw
    exact mm_wl_up (by omega) (mm_stb hs _ b hw)
theorem mm_cn7 (h : mm_LK L) {a b : Nat} (ha : a < 8) : mm_cn L a b ↔ mm_wl L 7 a b := ⟨fun ⟨_, w⟩ => mm_pig h ha w, fun w => ⟨7, w⟩⟩
theorem mm_cn_rf (a : Nat) : mm_cn L a a := ⟨0, rfl⟩
theorem mm_cn_st {a b c : Nat} (hb : b < 8) (h : mm_cn L a b) (hc : bt (L b) c = true) : mm_cn L a c := by
  obtain ⟨n, w⟩ := h
  exact ⟨n + 1, Or.inr ⟨b, hb, w, hc⟩⟩
theorem mm_cn_sy (h : mm_LK L) {a b : Nat} (ha : a < 8) (w : mm_cn L a b) : mm_cn L b a := by
  obtain ⟨n, w⟩ := w
  exact ⟨n, mm_wl_sy h n ha w⟩
theorem mm_wl_add : ∀ (k : Nat) {n a b c : Nat}, mm_wl L n a b → mm_wl L k b c → mm_wl L (n + k) a c := by
  intro k
  induction k with
  | zero => intro n a b c h1 h2; cases h2; exact h1
  | succ k ih =>
    intro n a b c h1 h2
    rcases h2 with h2 | ⟨e, he, h2, h3⟩
    · exact Or.inl (ih h1 h2)
    · exact Or.inr ⟨e, he, ih h1 h2, h3⟩
theorem mm_cn_tr {a b c : Nat} (h : mm_cn L a b) (h2 : mm_cn L b c) : mm_cn L a c := by
  obtain ⟨n, w⟩ := h
  obtain ⟨k, w2⟩ := h2
  exact ⟨n + k, mm_wl_add k w w2⟩
/-- exactness of far up to j -/
def mm_E (L : Nat → Int32) (f : Nat → Nat → Nat) (j : Nat) : Prop := ∀ a b n, a < 8 → b < 8 → n ≤ j → (f a b ≤ n ↔ mm_wl L n a b)
/-- what a round without harm makes of far: g, w out of f -/
def mm_X (L : Nat → Int32) (f g : Nat → Nat → Nat) (w : Nat → Nat → Int32) : Prop := ∀ a b, a < 8 → b < 8 →
  (a = b → g a b = 0) ∧ (a ≠ b → 1 ≤ g a b ∧ g a b ≤ 8 ∧ (∀ c, c < 8 → bt (L a) c = true → g a b ≤ f c b + 1) ∧
    ((g a b = 8 ∧ w a b = -1) ∨ (g a b < 8 ∧ ∃ c, c < 8 ∧ w a b = nI c ∧ bt (L a) c = true ∧ g a b = f c b + 1)))
theorem mm_E_st (h : mm_LK L) {f g : Nat → Nat → Nat} {w : Nat → Nat → Int32} (hx : mm_X L f g w) {j : Nat} (hj : j + 1 ≤ 7) (he : mm_E L f j) : mm_E L g (j + 1) := by
  intro a b n ha hb hn
  have hab := hx a b ha hb
  by_cases e : a = b
  · subst e
    rw [hab.1 rfl]
    exact ⟨fun _ => mm_wl_rf _ _, fun _ => Nat.zero_le _⟩
  · obtain ⟨h1, h2, h3, h4⟩ := hab.2 e
    cases n with
    | zero => exact ⟨fun z => by omega, fun z => (e z).elim⟩
    | succ k =>
      constructor
      · intro z
        rcases h4 with ⟨h5, _⟩ | ⟨_, c, hc, _, hac, hg⟩
        · omega
        · exact mm_wl_hd k ha hc hac ((he c b k hc hb (by omega)).mp (by omega))
      · intro z
        rcases mm_wl_tl h k ha z with z | ⟨c, hc, hac, hw⟩
        · exact (e z).elim
        · have h6 := (he c b k hc hb (by omega)).mpr hw
          have h7 := h3 c hc hac
          omega
theorem mm_E_dn {f : Nat → Nat → Nat} {j k : Nat} (h : j ≤ k) (he : mm_E L f k) : mm_E L f j := fun a b n ha hb hn => he a b n ha hb (by omega)
theorem mm_E_t (h : mm_LK L) {f g : Nat → Nat → Nat} {w : Nat → Nat → Int32} (hx : mm_X L f g w) {t : Nat} (ht : 24 ≤ t) (he : mm_E L f (min (t - 24) 7)) : mm_E L g (min (t + 1 - 24) 7) := by
  rcases Nat.lt_or_ge t 31 with h1 | h1
  · have e1 : min (t - 24) 7 = t - 24 := by omega
    have e2 : min (t + 1 - 24) 7 = (t - 24) + 1 := by omega
    rw [e1] at he
    rw [e2]
    exact mm_E_st h hx (by omega) he
  · have e1 : min (t - 24) 7 = 7 := by omega
    have e2 : min (t + 1 - 24) 7 = 6 + 1 := by omega
    rw [e1] at he
    rw [e2]
    exact mm_E_st h hx (by omega) (mm_E_dn (by omega) he)
/-- the ways are right -/
def mm_Wy (L : Nat → Int32) (w : Nat → Nat → Int32) : Prop := ∀ a b, a < 8 → b < 8 → a ≠ b →
  (∀ n, n ≤ 6 → mm_wl L (n + 1) a b → ∃ c, c < 8 ∧ w a b = nI c ∧ bt (L a) c = true ∧ mm_wl L n c b) ∧ (¬ mm_wl L 7 a b → w a b = -1)
theorem mm_Wy_of (h : mm_LK L) {f g : Nat → Nat → Nat} {w : Nat → Nat → Int32} (hx : mm_X L f g w) (he : mm_E L f 7) : mm_Wy L w := by
  intro a b ha hb e
  obtain ⟨h1, h2, h3, h4⟩ := (hx a b ha hb).2 e
  constructor
  · intro n hn z
    rcases mm_wl_tl h n ha z with z | ⟨c, hc, hac, hw⟩
    · exact (e z).elim
    · have h6 := (he c b n hc hb (by omega)).mpr hw
      have h7 := h3 c hc hac
      rcases h4 with ⟨h5, _⟩ | ⟨_, c2, hc2, h8, hac2, hg⟩
      · omega
      · exact ⟨c2, hc2, h8, hac2, (he c2 b n hc2 hb (by omega)).mp (by omega)⟩
  · intro z
    rcases h4 with ⟨_, h5⟩ | ⟨h5, c2, hc2, _, hac2, hg⟩
    · exact h5
    · exact (z (mm_wl_hd 6 ha hc2 hac2 ((he c2 b 6 hc2 hb (by omega)).mp (by omega)))).elim
end
