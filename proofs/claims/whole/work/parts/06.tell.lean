theorem mm_b15 : ∀ i, i < 32 → bt 15 i = decide (i < 4) := by decide +kernel
theorem mm_bf : ∀ f, f < 9 → ∀ i, i < 32 → 4 ≤ i → bt (nI f) i = false := by decide +kernel
theorem mm_told {F : Nat → Int32} {told : Int32} {a b f : Nat} (h : ∀ j, j < 32 → bt told j = bt (F (a * 8 + j / 4)) (j % 4)) (hb : b < 8) (hf : f < 9) (e : F (a * 8 + b) = nI f) : mm_nib told b = nI f := by
  apply b_ext
  intro i hi
  unfold mm_nib
  rw [mm_4i, b_and, b_ushr (4 * b) (by omega), mm_b15 i hi]
  by_cases h4 : i < 4
  · rw [h (4 * b + i) (by omega), show (4 * b + i) / 4 = b from by omega, show (4 * b + i) % 4 = i from by omega, e, decide_eq_true h4, Bool.and_true]
  · rw [decide_eq_false h4, Bool.and_false, mm_bf f hf i hi (by omega)]
/-- what is told in a round without harm, up to the telling of a to b -/
def mm_NX (L F nF nW : Nat → Int32) (a b : Nat) : Prop :=
  (∀ y z, y < 8 → z < 8 → y ≠ z → ((mm_n (nF (y * 8 + z)) = 8 ∧ nW (y * 8 + z) = -1) ∨ (mm_n (nF (y * 8 + z)) < 8 ∧ ∃ e, e < 8 ∧ nW (y * 8 + z) = nI e ∧ bt (L y) e = true ∧ mm_n (nF (y * 8 + z)) = mm_n (F (e * 8 + z)) + 1))) ∧
  (∀ x y z, x < 8 → y < 8 → z < 8 → y ≠ z → (x < a ∨ (x = a ∧ y < b)) → bt (L x) y = true → mm_n (nF (y * 8 + z)) ≤ mm_n (F (x * 8 + z)) + 1)
theorem mm_NX_st {L F W nF nW nF' nW' : Nat → Int32} {a b : Nat} {told : Int32} (hL : mm_LK L) (ha : a < 8) (hb : b < 8) (hab : bt (L a) b = true) (hF : mm_NF F W) (hnF : mm_NF nF nW) (ht : ∀ z, z < 8 → mm_nib told z = F (a * 8 + z))
  (h1 : ∀ j, ¬ (b * 8 ≤ j ∧ j < b * 8 + 8) → nF' j = nF j ∧ nW' j = nW j) (h2 : ∀ z, z < 8 → mm_hr (nI a) told nF nW nF' nW' (b * 8 + z) z) (hx : mm_NX L F nF nW a b) : mm_NX L F nF' nW' a (b + 1) := by
  have key : ∀ z, z < 8 → b ≠ z → (nF' (b * 8 + z) = nF (b * 8 + z) ∧ nW' (b * 8 + z) = nW (b * 8 + z) ∧ mm_n (nF (b * 8 + z)) ≤ mm_n (F (a * 8 + z)) + 1) ∨ (mm_n (nF' (b * 8 + z)) = mm_n (F (a * 8 + z)) + 1 ∧ nW' (b * 8 + z) = nI a ∧ mm_n (F (a * 8 + z)) + 1 < mm_n (nF (b * 8 + z))) := by
    intro z hz hbz
    have f0 := hF a z ha hz
    have n0 := hnF b z hb hz
    have f8 : mm_n (F (a * 8 + z)) ≤ 8 := by
      by_cases e : a = z
      · have := f0.2.1 e; omega
      · exact (f0.2.2.1 e).2
    have n8 := (n0.2.2.1 hbz).2
    rcases h2 z hz with ⟨g1, g2, g3⟩ | ⟨g1, g2, g3⟩
    · rw [ht z hz, f0.1, nI_1, n0.1, nI_leI (by omega) (by omega)] at g1
      exact Or.inl ⟨g2, g3, g1⟩
    · rw [ht z hz, f0.1, nI_1, n0.1, nI_leI (by omega) (by omega)] at g1
      rw [ht z hz, f0.1, nI_1] at g2
      refine Or.inr ⟨?_, g3, by omega⟩
      rw [g2, mm_nI (by omega)]
  constructor
  · intro y z hy hz hyz
    by_cases e : y = b
    · subst e
      rcases key z hz hyz with ⟨e1, e2, _⟩ | ⟨e1, e2, e3⟩
      · rw [e1, e2]; exact hx.1 y z hy hz hyz
      · have n8 := ((hnF y z hy hz).2.2.1 hyz).2
        exact Or.inr ⟨by omega, a, ha, e2, (hL a ha y hab).2.2, e1⟩
    · have := h1 (y * 8 + z) (by omega)
      rw [this.1, this.2]; exact hx.1 y z hy hz hyz
  · intro x y z hxx hy hz hyz hpr hxy
    by_cases e : y = b
    · subst e
      by_cases e2 : x = a
      · subst e2
        rcases key z hz hyz with ⟨e1, _, e3⟩ | ⟨e1, _, e3⟩
        · rw [e1]; exact e3
        · omega
      · have h5 := hx.2 x y z hxx hy hz hyz (by omega) hxy
        rcases key z hz hyz with ⟨e1, _, e3⟩ | ⟨e1, _, e3⟩
        · rw [e1]; exact h5
        · omega
    · have := h1 (y * 8 + z) (by omega)
      rw [this.1]
      exact hx.2 x y z hxx hy hz hyz (by omega) hxy
def mm_tau (t a : Nat) : Nat → Nat := fun s => if s < a then t + 1 else t
theorem mm_tau_lt {t a s : Nat} (h : s < a) : mm_tau t a s = t + 1 := if_pos h
theorem mm_tau_ge {t a s : Nat} (h : a ≤ s) : mm_tau t a s = t := if_neg (by omega)
section
variable {d : Int32} {c : Nat} {L db S G N B P T R F W nF nW H C O Lf K r0 r1 r2 r3 r4 : Nat → Int32} {post : SX → Prop} {Z : Int32 → Int32 → Int32 → Prop}
theorem mm_w_tell44 {t a : Nat} {told : Int32} {J2 : Int32 → Int32 → Int32 → (Nat → Int32) → (Nat → Int32) → (Nat → Int32) → (Nat → Int32) → (Nat → Int32) → (Nat → Int32) → (Nat → Int32) → (Nat → Int32) → (Nat → Int32) → (Nat → Int32) → (Nat → Int32) → (Nat → Int32) → (Nat → Int32) → (Nat → Int32) → (Nat → Int32) → (Nat → Int32) → (Nat → Int32) → (Nat → Int32) → (Nat → Int32) → (Nat → Int32) → (Nat → Int32) → (Nat → Int32) → (Nat → Int32) → Prop}
  (hL : mm_LK L) (hK : ∀ i, i < 16 → ∃ k, k ≤ 2 ∧ K i = nI k) (hF : mm_NF F W) (hZ : ∀ x y, x < 8 → y < 8 → Z (nI x) (nI y) 144) (ha : a < 8) (ht : ∀ z, z < 8 → mm_nib told z = F (a * 8 + z))
  (hJ : ∀ nF nW O Lf r0 r1 r2 r3 r4 : Nat → Int32, (∀ i, i < 16 → mm_or L O Lf (mm_tau t (a + 1)) i) → (∀ i, i < 16 → mm_lt Z (t + 1) r0 r1 r2 r3 i) → mm_NF nF nW → (24 ≤ t → mm_NX L F nF nW (a + 1) 0) → J2 (nI (a + 1)) d (nI c) L db S G N B P T R F W nF nW H C O Lf K r0 r1 r2 r3 r4) :
  ∀ (k b : Nat) (nF nW O Lf r0 r1 r2 r3 r4 : Nat → Int32), b + k = 8 → (∀ i, i < 16 → mm_or L O Lf (mm_tau t a) i) → ((∃ b', b' < b ∧ bt (L a) b' = true) → ∀ i, i < 16 → mm_or L O Lf (mm_tau t (a + 1)) i) → (∀ i, i < 16 → mm_lt Z (t + 1) r0 r1 r2 r3 i) → mm_NF nF nW → (24 ≤ t → mm_NX L F nF nW a b) → wX_tellWays_44 post J2 (nI a) told (k + 1) (nI b) d (nI c) L db S G N B P T R F W nF nW H C O Lf K r0 r1 r2 r3 r4 := by
  intro k
  induction k with
  | zero =>
    intro b nF nW O Lf r0 r1 r2 r3 r4 hb h1 h1' h2 h3 h4
    have : b = 8 := by omega
    subst this
    refine br_t (by decide) (nm_r (nI_1 a) (hJ nF nW O Lf r0 r1 r2 r3 r4 ?_ h2 h3 (fun z => ⟨(h4 z).1, fun x y z' hx hy hz hyz hpr hxy => (h4 z).2 x y z' hx hy hz hyz (by omega) hxy⟩)))
    by_cases e : ∃ b', b' < 8 ∧ bt (L a) b' = true
    · exact h1' e
    · intro i hi
      rcases h1 i hi with z | ⟨s, l, hs, hl, hO, hLf, hq⟩
      · exact Or.inl z
      · refine Or.inr ⟨s, l, hs, hl, hO, hLf, fun b hb => ?_⟩
        by_cases es : s = a
        · subst es
          exact absurd ⟨b, (hL s hs b hb).1, hb⟩ e
        · have := hq b hb
          by_cases e2 : s < a
          · rw [mm_tau_lt e2] at this; rw [mm_tau_lt (by omega)]; exact this
          · rw [mm_tau_ge (by omega)] at this; rw [mm_tau_ge (by omega)]; exact this
  | succ k ih =>
    intro b nF nW O Lf r0 r1 r2 r3 r4 hb h1 h1' h2 h3 h4
    refine br_f (nI_ge (b := 8) (by omega) (by decide)) ⟨vp_in_nI ha (by decide), ?_⟩
    rw [nI_clamp (n := a) (by omega)]
    refine mm_w_hb (by omega) (fun hbt => nm_r (nI_1 b) (ih (b + 1) nF nW O Lf r0 r1 r2 r3 r4 (by omega) h1 ?_ h2 h3 (fun z => ⟨(h4 z).1, fun x y z' hx hy hz hyz hpr hxy => ?_⟩))) (fun hbt => ?_)
    · rintro ⟨b', hb', hab⟩
      refine h1' ⟨b', ?_, hab⟩
      have : b' ≠ b := by
        intro e
        rw [e, hbt] at hab
        cases hab
      omega
    · have : ¬ (x = a ∧ y = b) := by
        rintro ⟨rfl, rfl⟩
        rw [hbt] at hxy
        cases hxy
      exact (h4 z).2 x y z' hx hy hz hyz (by omega) hxy
    · have hb8 : b < 8 := by omega
      have hwk : ∀ O Lf : Nat → Int32, (∀ i, i < 16 → mm_or L O Lf (mm_t1 (mm_tau t a) a) i) → ∀ i, i < 16 → mm_or L O Lf (mm_tau t (a + 1)) i := by
        intro O Lf z i hi
        refine mm_or_dn (fun s _ => ?_) (z i hi)
        unfold mm_t1
        by_cases es : s = a
        · rw [if_pos es, mm_tau_lt (by omega), mm_tau_ge (by omega)]; exact Nat.le_refl _
        · rw [if_neg es]
          by_cases e2 : s < a
          · rw [mm_tau_lt e2, mm_tau_lt (by omega)]; exact Nat.le_refl _
          · rw [mm_tau_ge (by omega), mm_tau_ge (by omega)]; exact Nat.le_refl _
      have hwk2 : ∀ O Lf : Nat → Int32, (∀ i, i < 16 → mm_or L O Lf (mm_tau t (a + 1)) i) → ∀ i, i < 16 → mm_or L O Lf (mm_tau t a) i := by
        intro O Lf z i hi
        refine mm_or_dn (fun s _ => ?_) (z i hi)
        by_cases e2 : s < a
        · rw [mm_tau_lt e2, mm_tau_lt (by omega)]; exact Nat.le_refl _
        · rw [mm_tau_ge (by omega)]
          by_cases es : s = a
          · rw [mm_tau_lt (by omega)]; exact Nat.le_succ _
          · rw [mm_tau_ge (by omega)]; exact Nat.le_refl _
      refine mm_w_send (τ := mm_tau t a) ha b hbt hK h1 h2 (fun z => ?_) (hZ a b ha hb8) ?_ ?_
      · rw [mm_tau_ge (Nat.le_refl a)] at z; omega
      · intro O Lf r0 r1 r2 r3 r4 g1 g2 g3
        rw [mm_tau_ge (Nat.le_refl a)] at g3
        exact nm_r (nI_1 b) (ih (b + 1) nF nW O Lf r0 r1 r2 r3 r4 (by omega) (hwk2 O Lf (hwk O Lf g1)) (fun _ => hwk O Lf g1) g2 h3 (fun z => absurd z (by omega)))
      · intro O Lf r0 r1 r2 r3 r4 g1 g2
        exact mm_w_ho_w hb8 (fun nF' nW' m1 m2 => nm_r (nI_1 b) (ih (b + 1) nF' nW' O Lf r0 r1 r2 r3 r4 (by omega) (hwk2 O Lf (hwk O Lf g1)) (fun _ => hwk O Lf g1) g2 (mm_NF_hr ha h3 m1 m2) (fun z => mm_NX_st hL ha hb8 hbt hF h3 ht m1 m2 (h4 z))))
theorem mm_w_tell12 {a : Nat} {J2 : Int32 → Int32 → Int32 → (Nat → Int32) → (Nat → Int32) → (Nat → Int32) → (Nat → Int32) → (Nat → Int32) → (Nat → Int32) → (Nat → Int32) → (Nat → Int32) → (Nat → Int32) → (Nat → Int32) → (Nat → Int32) → (Nat → Int32) → (Nat → Int32) → (Nat → Int32) → (Nat → Int32) → (Nat → Int32) → (Nat → Int32) → (Nat → Int32) → (Nat → Int32) → (Nat → Int32) → (Nat → Int32) → (Nat → Int32) → (Nat → Int32) → Prop} (hF : mm_NF F W) (ha : a < 8)
  (hJ : ∀ told : Int32, (∀ j, j < 32 → bt told j = bt (F (a * 8 + j / 4)) (j % 4)) → ∃ n44 : Nat, wX_tellWays_44 post J2 (nI a) told n44 0 d (nI c) L db S G N B P T R F W nF nW H C O Lf K r0 r1 r2 r3 r4) :
  ∀ (k b : Nat) (told : Int32), b + k = 8 → (∀ j, j < 32 → bt told j = (decide (j < 4 * b) && bt (F (a * 8 + j / 4)) (j % 4))) → wX_tellWays_12 post J2 (nI a) d (nI c) L db S G N B P T R F W nF nW H C O Lf K r0 r1 r2 r3 r4 (k + 1) told (nI b) := by
  intro k
  induction k with
  | zero =>
    intro b told hb h1
    have : b = 8 := by omega
    subst this
    exact br_t (by decide) (hJ told (fun j hj => by rw [h1 j hj, decide_eq_true (by omega), Bool.true_and]))
  | succ k ih =>
    intro b told hb h1
    refine br_f (nI_ge (b := 8) (by omega) (by decide)) ⟨pk_in (a * 8 + b) 64 (by omega) (mm_i8 a b), nm_e (nm_r (nI_1 b) ?_)⟩
    rw [pk_cl (a * 8 + b) (mm_i8 a b), mm_4i]
    refine ih (b + 1) _ (by omega) (fun j hj => ?_)
    rw [b_or, h1 j hj, b_shl (4 * b) (by omega) _ hj]
    have f0 := hF a b ha (by omega)
    have f8 : mm_n (F (a * 8 + b)) < 9 := by
      by_cases e : a = b
      · have := f0.2.1 e; omega
      · have := (f0.2.2.1 e).2; omega
    by_cases c1 : j < 4 * b
    · rw [decide_eq_true c1, decide_eq_true (show j < 4 * (b + 1) by omega), decide_eq_false (show ¬ 4 * b ≤ j by omega), Bool.true_and, Bool.false_and, Bool.or_false]
    · rw [decide_eq_false c1, decide_eq_true (show 4 * b ≤ j by omega), Bool.false_and, Bool.true_and, Bool.false_or]
      by_cases c2 : j < 4 * (b + 1)
      · rw [decide_eq_true c2, Bool.true_and, show j / 4 = b from by omega, show j % 4 = j - 4 * b from by omega]
      · rw [decide_eq_false c2, Bool.false_and, f0.1]
        exact mm_bf _ f8 _ (by omega) (by omega)
theorem mm_w_tell2 {t : Nat} (hL : mm_LK L) (hK : ∀ i, i < 16 → ∃ k, k ≤ 2 ∧ K i = nI k) (hF : mm_NF F W) (hZ : ∀ x y, x < 8 → y < 8 → Z (nI x) (nI y) 144)
  (hJ : ∀ nF nW O Lf r0 r1 r2 r3 r4 : Nat → Int32, (∀ i, i < 16 → mm_or L O Lf (mm_tau t 8) i) → (∀ i, i < 16 → mm_lt Z (t + 1) r0 r1 r2 r3 i) → mm_NF nF nW → (24 ≤ t → mm_NX L F nF nW 8 0) → post (d, nI c, L, db, S, G, N, B, P, T, R, F, W, nF, nW, H, C, O, Lf, K, r0, r1, r2, r3, r4)) :
  ∀ (k a : Nat) (nF nW O Lf r0 r1 r2 r3 r4 : Nat → Int32), a + k = 8 → (∀ i, i < 16 → mm_or L O Lf (mm_tau t a) i) → (∀ i, i < 16 → mm_lt Z (t + 1) r0 r1 r2 r3 i) → mm_NF nF nW → (24 ≤ t → mm_NX L F nF nW a 0) → wX_tellWays_2 post (k + 1) (nI a) d (nI c) L db S G N B P T R F W nF nW H C O Lf K r0 r1 r2 r3 r4 := by
  intro k
  induction k with
  | zero =>
    intro a nF nW O Lf r0 r1 r2 r3 r4 ha h1 h2 h3 h4
    have : a = 8 := by omega
    subst this
    exact br_t (by decide) (hJ nF nW O Lf r0 r1 r2 r3 r4 h1 h2 h3 h4)
  | succ k ih =>
    intro a nF nW O Lf r0 r1 r2 r3 r4 ha h1 h2 h3 h4
    refine br_f (nI_ge (b := 8) (by omega) (by decide)) ⟨9, mm_w_tell12 hF (by omega) (fun told hto => ⟨9, ?_⟩) 8 0 0 rfl (fun j hj => by rw [b_0, decide_eq_false (by omega), Bool.false_and])⟩
    refine mm_w_tell44 hL hK hF hZ (by omega) (fun z hz => ?_) (fun nF nW O Lf r0 r1 r2 r3 r4 g1 g2 g3 g4 => ih (a + 1) nF nW O Lf r0 r1 r2 r3 r4 (by omega) g1 g2 g3 g4) 8 0 nF nW O Lf r0 r1 r2 r3 r4 rfl h1 (fun ⟨b', hb', _⟩ => absurd hb' (by omega)) h2 h3 h4
    have f0 := hF a z (by omega) hz
    have f8 : mm_n (F (a * 8 + z)) < 9 := by
      by_cases e : a = z
      · have := f0.2.1 e; omega
      · have := (f0.2.2.1 e).2; omega
    exact (mm_told hto hz f8 f0.1).trans f0.1.symm
theorem mm_w_tell {t : Nat} (hL : mm_LK L) (hK : ∀ i, i < 16 → ∃ k, k ≤ 2 ∧ K i = nI k) (hF : mm_NF F W) (hZ : ∀ x y, x < 8 → y < 8 → Z (nI x) (nI y) 144)
  (h1 : ∀ i, i < 16 → mm_or L O Lf (fun _ => t) i) (h2 : ∀ i, i < 16 → mm_lt Z (t + 1) r0 r1 r2 r3 i) (h3 : mm_NF nF nW) (h4 : 24 ≤ t → ∀ y z, y < 8 → z < 8 → y ≠ z → mm_n (nF (y * 8 + z)) = 8 ∧ nW (y * 8 + z) = -1)
  (hJ : ∀ nF nW O Lf r0 r1 r2 r3 r4 : Nat → Int32, (∀ i, i < 16 → mm_or L O Lf (fun _ => t + 1) i) → (∀ i, i < 16 → mm_lt Z (t + 1) r0 r1 r2 r3 i) → mm_NF nF nW → (24 ≤ t → mm_NX L F nF nW 8 0) → post (d, nI c, L, db, S, G, N, B, P, T, R, F, W, nF, nW, H, C, O, Lf, K, r0, r1, r2, r3, r4)) :
  wpX_tellWays post (d, nI c, L, db, S, G, N, B, P, T, R, F, W, nF, nW, H, C, O, Lf, K, r0, r1, r2, r3, r4) := by
  refine ⟨9, mm_w_tell2 hL hK hF hZ (fun nF nW O Lf r0 r1 r2 r3 r4 g1 g2 g3 g4 => hJ nF nW O Lf r0 r1 r2 r3 r4 (fun i hi => mm_or_dn (fun s hs => ?_) (g1 i hi)) g2 g3 g4) 8 0 nF nW O Lf r0 r1 r2 r3 r4 rfl (fun i hi => mm_or_dn (fun s hs => ?_) (h1 i hi)) h2 h3 (fun z => ⟨fun y z' hy hz hyz => Or.inl (h4 z y z' hy hz hyz), fun x y z' hx hy hz hyz hpr => absurd hpr (by omega)⟩)⟩
  · rw [mm_tau_lt hs]; exact Nat.le_refl _
  · rw [mm_tau_ge (by omega)]; exact Nat.le_refl _
end
