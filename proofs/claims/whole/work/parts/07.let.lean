def mm_Q (c : Nat) (L S G N : Nat → Int32) (t : Nat) (T : Nat → Int32) (a m p : Nat) : Prop := m < c ∧ mm_cn L (mm_n (S m)) a ∧ ((p < 8 ∧ bt (mm_al (N m)) p = true ∧ a ≠ mm_n (G m)) ∨ (p = 8 ∧ a ≠ mm_n (S m) ∧ T m = 1)) ∧ (49 ≤ t → p < 8 → mm_wl L (55 - t) a (mm_n (G m))) ∧ (55 ≤ t → p = 8 → mm_wl L (62 - t) a (mm_n (S m)))
def mm_TI (c : Nat) (L S G T0 T : Nat → Int32) : Prop := (∀ m, m < c → (T m = 0 ∨ T m = 1) ∧ (T0 m = 1 → T m = 1) ∧ (T m = 1 → T0 m = 1 ∨ mm_cn L (mm_n (S m)) (mm_n (G m)))) ∧ (∀ m, c ≤ m → T m = T0 m)
theorem mm_Q_T {c t : Nat} {L S G N T T' : Nat → Int32} {a m p : Nat} (h : ∀ i, i < c → T i = 1 → T' i = 1) (hq : mm_Q c L S G N t T a m p) : mm_Q c L S G N t T' a m p := by
  obtain ⟨h1, h2, h3, h4⟩ := hq
  exact ⟨h1, h2, h3.elim Or.inl (fun z => Or.inr ⟨z.1, z.2.1, h m h1 z.2.2⟩), h4⟩
theorem mm_Z_T {c : Nat} {L S N T T' : Nat → Int32} {x y z : Int32} (h : ∀ i, i < c → T i = 1 → T' i = 1) (hq : mm_Z c L S N T x y z) : mm_Z c L S N T' x y z := by
  obtain ⟨fr, to, h1, h2, h3, h4, h5⟩ := hq
  refine ⟨fr, to, h1, h2, h3, h4, h5.elim Or.inl (fun ⟨m, p, g1, g2, g3⟩ => Or.inr ⟨m, p, g1, g2, g3.1, g3.2.1, g3.2.2.1, fun z => h m g3.1 (g3.2.2.2 z)⟩)⟩
theorem mm_lt_T {c q i : Nat} {L S N T T' r0 r1 r2 r3 : Nat → Int32} (h : ∀ i, i < c → T i = 1 → T' i = 1) (hq : mm_lt (mm_Z c L S N T) q r0 r1 r2 r3 i) : mm_lt (mm_Z c L S N T') q r0 r1 r2 r3 i := by
  obtain ⟨r, h1, h2, h3⟩ := hq
  exact ⟨r, h1, h2, h3.elim Or.inl (fun z => Or.inr ⟨z.1, mm_Z_T h z.2⟩)⟩
theorem mm_10 : ¬ (1 : Int32) = 0 := by decide
section
variable {d : Int32} {c : Nat} {L db S G N B P T R F W nF nW H C O Lf K r0 r1 r2 r3 r4 : Nat → Int32} {post : SX → Prop}
theorem mm_w_isFor {po : Int32 → Prop} {m : Nat} {x y : Int32} (hm : m < 16) (h1 : S m = x → G m = y → po 1) (h0 : ¬ (S m = x ∧ G m = y) → po 0) : wpX_isFor po (d, nI c, L, db, S, G, N, B, P, T, R, F, W, nF, nW, H, C, O, Lf, K, r0, r1, r2, r3, r4) (nI m) x y := by
  have hin : vp_in (nI m) 16 := vp_in_nI hm (by decide)
  refine ⟨hin, ?_⟩
  rw [nI_clamp (n := m) (by omega)]
  exact br_c (fun e => ⟨hin, br_c (fun e2 => h1 e e2) (fun e2 => h0 (fun z => e2 z.2))⟩) (fun e => h0 (fun z => e z.1))
theorem mm_w_early_l {po : Int32 → Prop} {m : Nat} (hm : m < 16) (hn : (∀ i, i < m → ¬ (T i = 0 ∧ S i = S m ∧ G i = G m)) → po 0) (hy : ∀ i, i < m → T i = 0 → S i = S m → G i = G m → po 1) :
  ∀ k i : Nat, i + k = m → (∀ j, j < i → ¬ (T j = 0 ∧ S j = S m ∧ G j = G m)) → wX_anEarlierOneWaits_2 po (nI m) d (nI c) L db S G N B P T R F W nF nW H C O Lf K r0 r1 r2 r3 r4 (k + 1) (nI i) := by
  intro k
  induction k with
  | zero =>
    intro i hi h1
    have : i = m := by omega
    subst this
    exact br_t (nI_le (Nat.le_refl i) (by omega)) (hn h1)
  | succ k ih =>
    intro i hi h1
    have hin : vp_in (nI i) 16 := vp_in_nI (by omega) (by decide)
    have him : vp_in (nI m) 16 := vp_in_nI (by omega) (by decide)
    refine br_f (nI_ge (by omega) (by omega)) ⟨hin, ?_⟩
    rw [nI_clamp (n := i) (by omega), nI_clamp (n := m) (by omega)]
    refine br_c (fun e => ⟨him, him, mm_w_isFor (by omega) (fun e1 e2 => br_f (by decide) (hy i (by omega) e e1 e2)) (fun en => br_t rfl (nm_r (nI_1 i) (ih (i + 1) (by omega) (fun j hj => ?_))))⟩) (fun e => nm_r (nI_1 i) (ih (i + 1) (by omega) (fun j hj => ?_)))
    · by_cases ej : j = i
      · subst ej; exact fun z => en z.2
      · exact h1 j (by omega)
    · by_cases ej : j = i
      · subst ej; exact fun z => e z.1
      · exact h1 j (by omega)
theorem mm_w_early {po : Int32 → Prop} {m : Nat} (hm : m < 16) (hn : (∀ i, i < m → ¬ (T i = 0 ∧ S i = S m ∧ G i = G m)) → po 0) (hy : ∀ i, i < m → T i = 0 → S i = S m → G i = G m → po 1) : wpX_anEarlierOneWaits po (d, nI c, L, db, S, G, N, B, P, T, R, F, W, nF, nW, H, C, O, Lf, K, r0, r1, r2, r3, r4) (nI m) :=
  ⟨m + 1, mm_w_early_l hm hn hy m 0 (by omega) (fun j hj => absurd hj (by omega))⟩
theorem mm_w_let_l {t : Nat} (hc : c ≤ 16) (hH : mm_HD c S G N) (T0 T1 C1 : Nat → Int32) (h39 : 39 ≤ t → ∀ m, m < c → mm_cn L (mm_n (S m)) (mm_n (G m)) → T1 m = 1)
  (hp : ∀ T C : Nat → Int32, mm_TI c L S G T0 T → mm_MI c L S G N T (mm_Q c L S G N (t + 1) T) P R C → (∀ i, i < c → T1 i = 1 → T i = 1) → (∀ i q, bt (C1 i) q = true → bt (C i) q = true) → ((∀ m, m < c → mm_cn L (mm_n (S m)) (mm_n (G m)) → T1 m = 1 ∨ P m = mm_al (N m)) → ∀ m, m < c → mm_cn L (mm_n (S m)) (mm_n (G m)) → T m = 1) → post (d, nI c, L, db, S, G, N, B, P, T, R, F, W, nF, nW, H, C, O, Lf, K, r0, r1, r2, r3, r4)) :
  ∀ (k i : Nat) (T C : Nat → Int32), i + k = c → mm_TI c L S G T0 T → mm_MI c L S G N T (mm_Q c L S G N (t + 1) T) P R C → (∀ i, i < c → T1 i = 1 → T i = 1) → (∀ i q, bt (C1 i) q = true → bt (C i) q = true) → ((∀ m, m < c → mm_cn L (mm_n (S m)) (mm_n (G m)) → T1 m = 1 ∨ P m = mm_al (N m)) → ∀ m, m < i → mm_cn L (mm_n (S m)) (mm_n (G m)) → T m = 1) → wX_letArrive_2 post d (nI c) (k + 1) (nI i) L db S G N B P T R F W nF nW H C O Lf K r0 r1 r2 r3 r4 := by
  intro k
  induction k with
  | zero =>
    intro i T C hi h1 h2 h3 h4 h5
    have : i = c := by omega
    subst this
    exact br_t (nI_le (Nat.le_refl i) (by omega)) (hp T C h1 h2 h3 h4 h5)
  | succ k ih =>
    intro i T C hi h1 h2 h3 h4 h5
    have hic : i < c := by omega
    have hi16 : i < 16 := by omega
    have hin : vp_in (nI i) 16 := vp_in_nI hi16 (by decide)
    refine br_f (nI_ge (by omega) (by omega)) ⟨hin, ?_⟩
    rw [nI_clamp (n := i) (by omega)]
    obtain ⟨eS, hs, eG, hg, hne, eN, hN⟩ := hH i hic
    refine br_c (fun e => ⟨hin, mm_w_all hi16 (br_c (fun eP => mm_w_early hi16 (fun hno => br_t rfl ⟨hin, nm_e ⟨hin, ?_⟩⟩) (fun j hj e0 e1 e2 => br_f (by decide) (nm_r (nI_1 i) (ih (i + 1) T C (by omega) h1 h2 h3 h4 (fun hF m hm hcn => ?_))))) (fun eP => nm_r (nI_1 i) (ih (i + 1) T C (by omega) h1 h2 h3 h4 (fun hF m hm hcn => ?_))))⟩) (fun e => nm_r (nI_1 i) (ih (i + 1) T C (by omega) h1 h2 h3 h4 (fun hF m hm hcn => ?_)))
    · have hcn : mm_cn L (mm_n (S i)) (mm_n (G i)) := by
        refine (h2.2.1 i hic e 0 ?_).2
        rw [eP, eN]
        exact mm_al0 hN
      have ht : t < 39 := by
        rcases Nat.lt_or_ge t 39 with z | z
        · exact z
        · have := h3 i hic (h39 z i hic hcn)
          rw [e] at this
          cases this
      rw [eG, mm_bl, mm_256]
      refine ⟨pk_in (mm_n (G i) * 16 + i) 128 (by omega) (mm_i16 _ i), pk_in (mm_n (G i) * 16 + i) 128 (by omega) (mm_i16 _ i), nm_e (nm_r (nI_1 i) ?_)⟩
      rw [pk_cl (mm_n (G i) * 16 + i) (mm_i16 _ i)]
      have hup : ∀ j, j < c → T j = 1 → upd T i 1 j = 1 := by
        intro j hj hj1
        by_cases ej : j = i
        · subst ej; exact pk_us
        · rw [pk_un ej]; exact hj1
      refine ih (i + 1) _ _ (by omega) ⟨fun m hm => ?_, fun m hm => ?_⟩ (mm_MI_C (by omega) hi16 ⟨fun a m p ha hm hb => mm_Q_T hup (h2.1 a m p ha hm hb), fun m hm z => ?_, fun m hm => ?_⟩ ⟨hic, hcn, Or.inr ⟨rfl, fun z => hne z.symm, pk_us⟩, fun z => absurd z (by omega), fun z => absurd z (by omega)⟩) (fun j hj hj1 => hup j hj (h3 j hj hj1)) (fun j q z => (mm_ob (by omega)).mpr (Or.inl (h4 j q z))) (fun hF m hm hcm => ?_)
      · by_cases ej : m = i
        · subst ej
          rw [pk_us]
          exact ⟨Or.inr rfl, fun _ => rfl, fun _ => Or.inr hcn⟩
        · rw [pk_un ej]; exact h1.1 m hm
      · rw [pk_un (by omega)]; exact h1.2 m hm
      · by_cases ej : m = i
        · subst ej
          rw [pk_us] at z
          exact absurd z mm_10
        · rw [pk_un ej] at z
          exact h2.2.1 m hm z
      · rcases h2.2.2 m hm with z | z
        · exact Or.inl z
        · exact Or.inr (hup m hm z)
      · by_cases ej : m = i
        · subst ej; exact pk_us
        · exact hup m (by omega) (h5 hF m (by omega) hcm)
    · by_cases ej : m = i
      · subst ej
        have : T j = 1 := h5 hF j hj (by rw [e1, e2]; exact hcn)
        rw [e0] at this
        cases this
      · exact h5 hF m (by omega) hcn
    · by_cases ej : m = i
      · subst ej
        rcases hF m hic hcn with z | z
        · exact h3 m hic z
        · exact absurd z eP
      · exact h5 hF m (by omega) hcn
    · by_cases ej : m = i
      · subst ej
        rcases (h1.1 m hic).1 with z | z
        · exact absurd z e
        · exact z
      · exact h5 hF m (by omega) hcn
theorem mm_w_let {t : Nat} (hc : c ≤ 16) (hH : mm_HD c S G N) (T0 : Nat → Int32) (h39 : 39 ≤ t → ∀ m, m < c → mm_cn L (mm_n (S m)) (mm_n (G m)) → T m = 1)
  (h1 : mm_TI c L S G T0 T) (h2 : mm_MI c L S G N T (mm_Q c L S G N (t + 1) T) P R C)
  (hp : ∀ T' C' : Nat → Int32, mm_TI c L S G T0 T' → mm_MI c L S G N T' (mm_Q c L S G N (t + 1) T') P R C' → (∀ i, i < c → T i = 1 → T' i = 1) → (∀ i q, bt (C i) q = true → bt (C' i) q = true) → ((∀ m, m < c → mm_cn L (mm_n (S m)) (mm_n (G m)) → T m = 1 ∨ P m = mm_al (N m)) → ∀ m, m < c → mm_cn L (mm_n (S m)) (mm_n (G m)) → T' m = 1) → post (d, nI c, L, db, S, G, N, B, P, T', R, F, W, nF, nW, H, C', O, Lf, K, r0, r1, r2, r3, r4)) :
  wpX_letArrive post (d, nI c, L, db, S, G, N, B, P, T, R, F, W, nF, nW, H, C, O, Lf, K, r0, r1, r2, r3, r4) :=
  ⟨c + 1, mm_w_let_l hc hH T0 T C h39 hp c 0 T C (by omega) h1 h2 (fun _ _ z => z) (fun _ _ z => z) (fun _ m hm => absurd hm (by omega))⟩
def mm_cth (T : Nat → Int32) : Nat → Nat
  | 0 => 0
  | k + 1 => mm_cth T k + (if T k = 0 then 0 else 1)
theorem mm_cth_le (T : Nat → Int32) (k : Nat) : mm_cth T k ≤ k := by
  induction k with
  | zero => exact Nat.le_refl 0
  | succ k ih =>
    unfold mm_cth
    by_cases h : T k = 0
    · rw [if_pos h]; omega
    · rw [if_neg h]; omega
theorem mm_cth_cg {T T' : Nat → Int32} (k : Nat) (h : ∀ i, i < k → T i = T' i) : mm_cth T k = mm_cth T' k := by
  induction k with
  | zero => rfl
  | succ k ih =>
    unfold mm_cth
    rw [ih (fun i hi => h i (by omega)), h k (by omega)]
theorem mm_w_cth_l {po : Int32 → Prop} (hc : c ≤ 16) (hp : po (nI (mm_cth T c))) :
  ∀ k i : Nat, i + k = c → wX_countThere_4 po d (nI c) L db S G N B P T R F W nF nW H C O Lf K r0 r1 r2 r3 r4 (k + 1) (nI (mm_cth T i)) (nI i) := by
  intro k
  induction k with
  | zero =>
    intro i hi
    have : i = c := by omega
    subst this
    exact br_t (nI_le (Nat.le_refl i) (by omega)) hp
  | succ k ih =>
    intro i hi
    have hin : vp_in (nI i) 16 := vp_in_nI (by omega) (by decide)
    refine br_f (nI_ge (by omega) (by omega)) ⟨hin, ?_⟩
    rw [nI_clamp (n := i) (by omega)]
    have h := ih (i + 1) (by omega)
    refine br_c (fun e => nm_r (nI_1 i) ?_) (fun e => nm_r (nI_1 _) (nm_r (nI_1 i) ?_))
    · have e2 : mm_cth T (i + 1) = mm_cth T i := by
        show mm_cth T i + (if T i = 0 then 0 else 1) = mm_cth T i
        rw [if_pos e, Nat.add_zero]
      rw [e2] at h
      exact h
    · have e2 : mm_cth T (i + 1) = mm_cth T i + 1 := by
        show mm_cth T i + (if T i = 0 then 0 else 1) = mm_cth T i + 1
        rw [if_neg e]
      rw [e2] at h
      exact h
theorem mm_w_cth {po : Int32 → Prop} (hc : c ≤ 16) (hp : po (nI (mm_cth T c))) : wpX_countThere po (d, nI c, L, db, S, G, N, B, P, T, R, F, W, nF, nW, H, C, O, Lf, K, r0, r1, r2, r3, r4) := ⟨c + 1, mm_w_cth_l hc hp c 0 (by omega)⟩
end
