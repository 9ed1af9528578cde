abbrev mm_n (x : Int32) : Nat := x.toNatClampNeg
theorem mm_nI {k : Nat} (h : k < 2 ^ 31) : mm_n (nI k) = k := nI_clamp h
def mm_HD (c : Nat) (S G N : Nat → Int32) : Prop := ∀ m, m < c → S m = nI (mm_n (S m)) ∧ mm_n (S m) < 8 ∧ G m = nI (mm_n (G m)) ∧ mm_n (G m) < 8 ∧ mm_n (S m) ≠ mm_n (G m) ∧ N m = nI (mm_n (N m)) ∧ mm_n (N m) < 9
def mm_MI (c : Nat) (L S G N T : Nat → Int32) (Q : Nat → Nat → Nat → Prop) (P R C : Nat → Int32) : Prop :=
  (∀ a m p, a < 8 → m < 16 → bt (C (a * 16 + m)) p = true → Q a m p) ∧
  (∀ m, m < c → T m = 0 → ∀ p, bt (P m) p = true → bt (mm_al (N m)) p = true ∧ mm_cn L (mm_n (S m)) (mm_n (G m))) ∧
  (∀ m, m < c → R m = 0 ∨ T m = 1)
def mm_gd (c : Nat) (L S G N T : Nat → Int32) (Q : Nat → Nat → Nat → Prop) (n m p : Nat) : Prop :=
  m < c ∧ (p = 8 → T m = 1 ∧ (n ≠ mm_n (S m) → Q n m 8)) ∧
  (p < 8 → (n = mm_n (G m) → (T m = 0 → bt (mm_al (N m)) p = true ∧ mm_cn L (mm_n (S m)) (mm_n (G m))) ∧ (¬ T m = 0 → Q n m 8)) ∧ (n ≠ mm_n (G m) → Q n m p))
def mm_okl (c : Nat) (L S N T : Nat → Int32) (n m p : Nat) : Prop := m < c ∧ mm_cn L (mm_n (S m)) n ∧ (p < 8 → bt (mm_al (N m)) p = true) ∧ (p = 8 → T m = 1)
def mm_Z (c : Nat) (L S N T : Nat → Int32) (x1 x2 x3 : Int32) : Prop := ∃ fr to, fr < 8 ∧ to < 8 ∧ x1 = nI fr ∧ x2 = nI to ∧ (x3 = 144 ∨ ∃ m p, p < 9 ∧ x3 = nI (m * 9 + p) ∧ mm_okl c L S N T to m p)
def mm_NF (nF nW : Nat → Int32) : Prop := ∀ a b, a < 8 → b < 8 → nF (a * 8 + b) = nI (mm_n (nF (a * 8 + b))) ∧ (a = b → mm_n (nF (a * 8 + b)) = 0) ∧ (a ≠ b → 1 ≤ mm_n (nF (a * 8 + b)) ∧ mm_n (nF (a * 8 + b)) ≤ 8) ∧ (nW (a * 8 + b) = -1 ∨ ∃ e, e < 8 ∧ nW (a * 8 + b) = nI e)
theorem mm_nibE (told : Int32) (b : Nat) : ∃ v, v < 16 ∧ mm_nib told b = nI v := pk_andE _ 4 (by decide)
theorem mm_NF_hr {nF nW nF' nW' : Nat → Int32} {fr to : Nat} {told : Int32} (hfr : fr < 8) (h : mm_NF nF nW)
  (h1 : ∀ j, ¬ (to * 8 ≤ j ∧ j < to * 8 + 8) → nF' j = nF j ∧ nW' j = nW j) (h2 : ∀ b, b < 8 → mm_hr (nI fr) told nF nW nF' nW' (to * 8 + b) b) : mm_NF nF' nW' := by
  intro a b ha hb
  have h0 := h a b ha hb
  by_cases e : a = to
  · subst e
    rcases h2 b hb with ⟨_, e1, e2⟩ | ⟨hn, e1, e2⟩
    · rw [e1, e2]; exact h0
    · obtain ⟨v, hv, ev⟩ := mm_nibE told b
      rw [ev, nI_1] at hn e1
      rw [e1, e2, mm_nI (k := v + 1) (by omega)]
      rw [h0.1, nI_leI (by have := h0.2.1; have := h0.2.2.1; by_cases z : a = b <;> omega) (by omega)] at hn
      refine ⟨rfl, fun z => ?_, fun z => ?_, Or.inr ⟨fr, hfr, rfl⟩⟩
      · have := h0.2.1 z; omega
      · have := h0.2.2.1 z; omega
  · have := h1 (a * 8 + b) (by omega)
    rw [this.1, this.2]; exact h0
section
variable {d : Int32} {c : Nat} {L db S G N B P T R F W nF nW H C O Lf K r0 r1 r2 r3 r4 : Nat → Int32} {post : SX → Prop} {Q : Nat → Nat → Nat → Prop}
theorem mm_MI_R {m : Nat} (h : mm_MI c L S G N T Q P R C) (hT : T m = 1) : mm_MI c L S G N T Q P (upd R m 1) C := by
  refine ⟨h.1, h.2.1, fun i hi => ?_⟩
  by_cases e : i = m
  · subst e; exact Or.inr hT
  · rw [pk_un e]; exact h.2.2 i hi
theorem mm_MI_P {m p : Nat} (hp : p < 32) (h : mm_MI c L S G N T Q P R C) (hG : T m = 0 → bt (mm_al (N m)) p = true ∧ mm_cn L (mm_n (S m)) (mm_n (G m))) : mm_MI c L S G N T Q (upd P m (P m ||| ((1 : Int32) <<< (nI p &&& 31)))) R C := by
  refine ⟨h.1, fun i hi hT q hq => ?_, h.2.2⟩
  rcases (mm_ob hp).mp hq with z | ⟨e, e2⟩
  · exact h.2.1 i hi hT q z
  · subst e; subst e2; exact hG hT
theorem mm_MI_C {n m p : Nat} (hp : p < 32) (hm : m < 16) (h : mm_MI c L S G N T Q P R C) (hq : Q n m p) : mm_MI c L S G N T Q P R (upd C (n * 16 + m) (C (n * 16 + m) ||| ((1 : Int32) <<< (nI p &&& 31)))) := by
  refine ⟨fun a i q ha hi hb => ?_, h.2.1, h.2.2⟩
  rcases (mm_ob hp).mp hb with z | ⟨e, e2⟩
  · exact h.1 a i q ha hi z
  · have : a = n ∧ i = m := by omega
    rw [this.1, this.2, e2]; exact hq
def mm_D (G P C : Nat → Int32) (n m p : Nat) : Prop := (n = mm_n (G m) → bt (P m) p = true) ∧ (n ≠ mm_n (G m) → bt (C (n * 16 + m)) p = true)
theorem mm_w_dl {n m p : Nat} {x1 told : Int32} (hc : c ≤ 16) (hH : mm_HD c S G N) (hn : n < 8) (hp : p < 9) (hM : mm_MI c L S G N T Q P R C) (hg : mm_gd c L S G N T Q n m p)
  (hpo : ∀ P' R' C' : Nat → Int32, mm_MI c L S G N T Q P' R' C' → (∀ i q, bt (P i) q = true → bt (P' i) q = true) → (∀ i q, bt (C i) q = true → bt (C' i) q = true) → (p < 8 → mm_D G P' C' n m p) → post (d, nI c, L, db, S, G, N, B, P', T, R', F, W, nF, nW, H, C', O, Lf, K, r0, r1, r2, r3, r4)) :
  wpX_handOver post (d, nI c, L, db, S, G, N, B, P, T, R, F, W, nF, nW, H, C, O, Lf, K, r0, r1, r2, r3, r4) x1 (nI n) (nI (m * 9 + p)) told := by
  obtain ⟨hm, hg8, hgd⟩ := hg
  obtain ⟨eS, hs, eG, hgl, hne, eN, hN⟩ := hH m hm
  refine mm_w_ho_p hn (by omega) hp hs hgl eS eG (fun e8 en => ?_) (fun l8 en hT => ?_) (fun l8 en hT => ?_) (fun z1 z2 => ?_)
  · exact hpo P (upd R m 1) C (mm_MI_R hM (hg8 e8).1) (fun _ _ z => z) (fun _ _ z => z) (fun z => absurd z (by omega))
  · refine hpo (upd P m (P m ||| ((1 : Int32) <<< (nI p &&& 31)))) R C (mm_MI_P (by omega) hM ((hgd l8).1 en).1) (fun i q z => (mm_ob (by omega)).mpr (Or.inl z)) (fun _ _ z => z) (fun _ => ⟨fun _ => (mm_ob (by omega)).mpr (Or.inr ⟨rfl, rfl⟩), fun z => absurd en z⟩)
  · refine hpo (upd P m (P m ||| ((1 : Int32) <<< (nI p &&& 31)))) R (upd C (n * 16 + m) (C (n * 16 + m) ||| ((1 : Int32) <<< (nI 8 &&& 31)))) (mm_MI_C (by omega) (by omega) (mm_MI_P (by omega) hM ((hgd l8).1 en).1) (((hgd l8).1 en).2 hT)) (fun i q z => (mm_ob (by omega)).mpr (Or.inl z)) (fun i q z => (mm_ob (by omega)).mpr (Or.inl z)) (fun _ => ⟨fun _ => (mm_ob (by omega)).mpr (Or.inr ⟨rfl, rfl⟩), fun z => absurd en z⟩)
  · have hq : Q n m p := by
      by_cases e8 : p = 8
      · subst e8; exact (hg8 rfl).2 (z1 rfl)
      · exact (hgd (by omega)).2 (z2 (by omega))
    exact hpo P R (upd C (n * 16 + m) (C (n * 16 + m) ||| ((1 : Int32) <<< (nI p &&& 31)))) (mm_MI_C (by omega) (by omega) hM hq) (fun _ _ z => z) (fun i q z => (mm_ob (by omega)).mpr (Or.inl z)) (fun l8 => ⟨fun z => absurd z (z2 l8), fun _ => (mm_ob (by omega)).mpr (Or.inr ⟨rfl, rfl⟩)⟩)
theorem mm_w_late_l {t : Nat} (hc : c ≤ 16) (hH : mm_HD c S G N) (hZ : t < 24 → ∀ n m p, n < 8 → p < 9 → mm_okl c L S N T n m p → mm_gd c L S G N T Q n m p)
  (P0 R0 C0 nF0 nW0 : Nat → Int32)
  (hp : ∀ P R nF nW C r0 : Nat → Int32, mm_MI c L S G N T Q P R C → mm_NF nF nW → (∀ i, i < 16 → mm_lt (mm_Z c L S N T) (t + 1) r0 r1 r2 r3 i) → (24 ≤ t → P = P0 ∧ R = R0 ∧ C = C0 ∧ nF = nF0 ∧ nW = nW0) → post (d, nI c, L, db, S, G, N, B, P, T, R, F, W, nF, nW, H, C, O, Lf, K, r0, r1, r2, r3, r4)) :
  ∀ (k i : Nat) (P R nF nW C r0 : Nat → Int32), i + k = 16 → mm_MI c L S G N T Q P R C → mm_NF nF nW → (∀ j, j < i → mm_lt (mm_Z c L S N T) (t + 1) r0 r1 r2 r3 j) → (∀ j, i ≤ j → j < 16 → mm_lt (mm_Z c L S N T) t r0 r1 r2 r3 j) → (24 ≤ t → P = P0 ∧ R = R0 ∧ C = C0 ∧ nF = nF0 ∧ nW = nW0) → wX_bringLatePieces_2 post (k + 1) (nI i) d (nI c) L db S G N B P T R F W nF nW H C O Lf K r0 r1 r2 r3 r4 := by
  intro k
  induction k with
  | zero =>
    intro i P R nF nW C r0 hi h1 h2 h3 h4 h5
    have : i = 16 := by omega
    subst this
    exact br_t (by decide) (hp P R nF nW C r0 h1 h2 h3 h5)
  | succ k ih =>
    intro i P R nF nW C r0 hi h1 h2 h3 h4 h5
    have hi16 : i < 16 := by omega
    have hin : vp_in (nI i) 16 := vp_in_nI hi16 (by decide)
    refine br_f (nI_ge (b := 16) hi16 (by decide)) ⟨hin, ?_⟩
    rw [nI_clamp (n := i) (by omega)]
    obtain ⟨r, hr, er, hrr⟩ := h4 i (Nat.le_refl i) hi16
    rw [er]
    refine pk_le r 0 (fun e => nm_r (nI_1 i) (ih (i + 1) P R nF nW C r0 (by omega) h1 h2 ?_ (fun j hj hj2 => h4 j (by omega) hj2) h5)) (fun e => ⟨hin, hin, nm_e ⟨hin, ?_⟩⟩)
    · intro j hj
      by_cases ej : j = i
      · subst ej
        exact ⟨r, hr, er, Or.inl (by omega)⟩
      · exact h3 j (by omega)
    · rcases hrr with z | ⟨hrt, hz⟩
      · omega
      have e1 : nI r - 1 = nI (r - 1) := pk_sub (b := 1) (by omega)
      rw [pk_us, e1]
      have h3' : ∀ j, j < i + 1 → mm_lt (mm_Z c L S N T) (t + 1) (upd r0 i (nI (r - 1))) r1 r2 r3 j := by
        intro j hj
        by_cases ej : j = i
        · subst ej
          exact ⟨r - 1, by omega, pk_us, Or.inr ⟨by omega, hz⟩⟩
        · unfold mm_lt
          rw [pk_un ej]
          exact h3 j (by omega)
      have h4' : ∀ j, i + 1 ≤ j → j < 16 → mm_lt (mm_Z c L S N T) t (upd r0 i (nI (r - 1))) r1 r2 r3 j := by
        intro j hj hj2
        unfold mm_lt
        rw [pk_un (by omega)]
        exact h4 j (by omega) hj2
      refine pk_eq (r - 1) 0 (fun e0 => ⟨hin, hin, hin, hin, ?_⟩) (fun e0 => nm_r (nI_1 i) (ih (i + 1) P R nF nW C _ (by omega) h1 h2 h3' h4' (fun z => absurd z (by omega))))
      obtain ⟨fr, to, hfr, hto, ef, et, hpc⟩ := hz
      rw [ef, et]
      rcases hpc with e144 | ⟨m, p, hp9, e9, hok⟩
      · rw [e144]
        exact mm_w_ho_w hto (fun nF' nW' g1 g2 => nm_r (nI_1 i) (ih (i + 1) P R nF' nW' C _ (by omega) h1 (mm_NF_hr hfr h2 g1 g2) h3' h4' (fun z => absurd z (by omega))))
      · rw [e9]
        exact mm_w_dl hc hH hto hp9 h1 (hZ (by omega) to m p hto hp9 hok) (fun P' R' C' g1 _ _ _ => nm_r (nI_1 i) (ih (i + 1) P' R' nF nW C' _ (by omega) g1 h2 h3' h4' (fun z => absurd z (by omega))))
theorem mm_w_late {t : Nat} (hc : c ≤ 16) (hH : mm_HD c S G N) (hZ : t < 24 → ∀ n m p, n < 8 → p < 9 → mm_okl c L S N T n m p → mm_gd c L S G N T Q n m p)
  (h1 : mm_MI c L S G N T Q P R C) (h2 : mm_NF nF nW) (h3 : ∀ j, j < 16 → mm_lt (mm_Z c L S N T) t r0 r1 r2 r3 j)
  (hp : ∀ P' R' nF' nW' C' r0' : Nat → Int32, mm_MI c L S G N T Q P' R' C' → mm_NF nF' nW' → (∀ i, i < 16 → mm_lt (mm_Z c L S N T) (t + 1) r0' r1 r2 r3 i) → (24 ≤ t → P' = P ∧ R' = R ∧ C' = C ∧ nF' = nF ∧ nW' = nW) → post (d, nI c, L, db, S, G, N, B, P', T, R', F, W, nF', nW', H, C', O, Lf, K, r0', r1, r2, r3, r4)) :
  wpX_bringLatePieces post (d, nI c, L, db, S, G, N, B, P, T, R, F, W, nF, nW, H, C, O, Lf, K, r0, r1, r2, r3, r4) :=
  ⟨17, mm_w_late_l hc hH hZ P R C nF nW hp 16 0 P R nF nW C r0 rfl h1 h2 (fun j hj => absurd hj (by omega)) (fun j _ hj => h3 j hj) (fun _ => ⟨rfl, rfl, rfl, rfl, rfl⟩)⟩
theorem mm_w_all {po : Int32 → Prop} {m : Nat} (hm : m < 16) (h : po (mm_al (N m))) : wpX_allPieces po (d, nI c, L, db, S, G, N, B, P, T, R, F, W, nF, nW, H, C, O, Lf, K, r0, r1, r2, r3, r4) (nI m) := by
  have hin : vp_in (nI m) 16 := vp_in_nI hm (by decide)
  refine ⟨hin, ?_⟩
  rw [nI_clamp (n := m) (by omega)]
  unfold mm_al at h
  exact br_c (fun e => by rw [if_pos e] at h; exact h) (fun e => ⟨hin, by rw [if_neg e] at h; exact h⟩)
theorem mm_w_up_l (hc : c ≤ 16) (hH : mm_HD c S G N) (H0 : Nat → Int32)
  (hp : ∀ H : Nat → Int32, (∀ a m p, a < 8 → m < 16 → (bt (H (a * 16 + m)) p = true ↔ (bt (H0 (a * 16 + m)) p = true ∨ (m < c ∧ a = mm_n (S m) ∧ R m = 0 ∧ bt (mm_al (N m)) p = true)))) → post (d, nI c, L, db, S, G, N, B, P, T, R, F, W, nF, nW, H, C, O, Lf, K, r0, r1, r2, r3, r4)) :
  ∀ (k i : Nat) (H : Nat → Int32), i + k = c → (∀ a m p, a < 8 → m < 16 → (bt (H (a * 16 + m)) p = true ↔ (bt (H0 (a * 16 + m)) p = true ∨ (m < i ∧ a = mm_n (S m) ∧ R m = 0 ∧ bt (mm_al (N m)) p = true)))) → wX_takeUpWaiting_2 post d (nI c) (k + 1) (nI i) L db S G N B P T R F W nF nW H C O Lf K r0 r1 r2 r3 r4 := by
  intro k
  induction k with
  | zero =>
    intro i H hi h1
    have : i = c := by omega
    subst this
    exact br_t (nI_le (Nat.le_refl i) (by omega)) (hp H h1)
  | succ k ih =>
    intro i H hi h1
    have hi16 : i < 16 := by omega
    have hin : vp_in (nI i) 16 := vp_in_nI hi16 (by decide)
    refine br_f (nI_ge (by omega) (by omega)) ⟨hin, ?_⟩
    rw [nI_clamp (n := i) (by omega)]
    obtain ⟨eS, hs, -⟩ := hH i (by omega)
    refine br_c (fun e => ⟨hin, ?_⟩) (fun e => nm_r (nI_1 i) (ih (i + 1) H (by omega) ?_))
    · rw [eS]
      refine ⟨pk_in (mm_n (S i) * 16 + i) 128 (by omega) (mm_i16 _ i), mm_w_all hi16 ⟨pk_in (mm_n (S i) * 16 + i) 128 (by omega) (mm_i16 _ i), nm_e (nm_r (nI_1 i) ?_)⟩⟩
      rw [pk_cl (mm_n (S i) * 16 + i) (mm_i16 _ i)]
      refine ih (i + 1) _ (by omega) ?_
      intro a m p ha hm
      by_cases ek : a * 16 + m = mm_n (S i) * 16 + i
      · have : a = mm_n (S i) ∧ m = i := by omega
        obtain ⟨rfl, rfl⟩ := this
        rw [pk_us, b_or, Bool.or_eq_true, h1 _ m p ha hm]
        constructor
        · rintro ((z | z) | z)
          · exact Or.inl z
          · exact absurd z.1 (by omega)
          · exact Or.inr ⟨by omega, rfl, e, z⟩
        · rintro (z | z)
          · exact Or.inl (Or.inl z)
          · exact Or.inr z.2.2.2
      · rw [pk_un ek, h1 a m p ha hm]
        constructor
        · rintro (z | z)
          · exact Or.inl z
          · exact Or.inr ⟨by omega, z.2⟩
        · rintro (z | z)
          · exact Or.inl z
          · refine Or.inr ⟨?_, z.2⟩
            have : m ≠ i := by
              intro e2
              subst e2
              exact ek (by rw [z.2.1])
            omega
    · intro a m p ha hm
      rw [h1 a m p ha hm]
      constructor
      · rintro (z | z)
        · exact Or.inl z
        · exact Or.inr ⟨by omega, z.2⟩
      · rintro (z | z)
        · exact Or.inl z
        · refine Or.inr ⟨?_, z.2⟩
          have : m ≠ i := by
            intro e2
            subst e2
            exact e z.2.2.1
          omega
theorem mm_w_up (hc : c ≤ 16) (hH : mm_HD c S G N)
  (hp : ∀ H' : Nat → Int32, (∀ a m p, a < 8 → m < 16 → (bt (H' (a * 16 + m)) p = true ↔ (bt (H (a * 16 + m)) p = true ∨ (m < c ∧ a = mm_n (S m) ∧ R m = 0 ∧ bt (mm_al (N m)) p = true)))) → post (d, nI c, L, db, S, G, N, B, P, T, R, F, W, nF, nW, H', C, O, Lf, K, r0, r1, r2, r3, r4)) :
  wpX_takeUpWaiting post (d, nI c, L, db, S, G, N, B, P, T, R, F, W, nF, nW, H, C, O, Lf, K, r0, r1, r2, r3, r4) :=
  ⟨c + 1, mm_w_up_l hc hH H hp c 0 H (by omega) (fun a m p _ _ => ⟨fun z => Or.inl z, fun z => z.elim id (fun z => absurd z.1 (by omega))⟩)⟩
theorem mm_w_beg36 (hp : ∀ nF nW : Nat → Int32, (∀ j, j < 64 → nF j = (if j / 8 = j % 8 then 0 else 8) ∧ nW j = -1) → post (d, nI c, L, db, S, G, N, B, P, T, R, F, W, nF, nW, H, C, O, Lf, K, r0, r1, r2, r3, r4)) :
  ∀ (k i : Nat) (nF nW : Nat → Int32), i + k = 64 → (∀ j, j < i → nF j = (if j / 8 = j % 8 then 0 else 8) ∧ nW j = -1) → wX_beginRound_36 post d (nI c) (k + 1) (nI i) L db S G N B P T R F W nF nW H C O Lf K r0 r1 r2 r3 r4 := by
  intro k
  induction k with
  | zero =>
    intro i nF nW hi h1
    have : i = 64 := by omega
    subst this
    exact br_t (by decide) (hp nF nW h1)
  | succ k ih =>
    intro i nF nW hi h1
    have hin : vp_in (nI i) 64 := vp_in_nI (by omega) (by decide)
    refine br_f (nI_ge (b := 64) (by omega) (by decide)) ⟨by decide, by decide, ?_⟩
    have e1 : nI i / 8 = nI (i / 8) := by rw [mm_8, pk_div (by omega) (by omega) (by omega)]
    have e2 : nI i - nI i / 8 * 8 = nI (i % 8) := by rw [mm_8, pk_rem (by omega) (by omega) (by omega)]
    rw [e2, e1]
    refine pk_eq (i / 8) (i % 8) (fun e => ⟨hin, nm_e ⟨hin, nm_e (nm_r (nI_1 i) ?_)⟩⟩) (fun e => ⟨hin, nm_e ⟨hin, nm_e (nm_r (nI_1 i) ?_)⟩⟩)
    · rw [nI_clamp (n := i) (by omega)]
      refine ih (i + 1) _ _ (by omega) (fun j hj => ?_)
      by_cases ej : j = i
      · subst ej
        rw [pk_us, pk_us, if_pos e]; exact ⟨rfl, rfl⟩
      · rw [pk_un ej, pk_un ej]; exact h1 j (by omega)
    · rw [nI_clamp (n := i) (by omega)]
      refine ih (i + 1) _ _ (by omega) (fun j hj => ?_)
      by_cases ej : j = i
      · subst ej
        rw [pk_us, pk_us, if_neg e]; exact ⟨rfl, rfl⟩
      · rw [pk_un ej, pk_un ej]; exact h1 j (by omega)
theorem mm_w_beg2 (C0 : Nat → Int32) (hp : ∀ nF nW H C : Nat → Int32, (∀ j, j < 64 → nF j = (if j / 8 = j % 8 then 0 else 8) ∧ nW j = -1) → (∀ j, j < 128 → H j = C0 j ∧ C j = 0) → post (d, nI c, L, db, S, G, N, B, P, T, R, F, W, nF, nW, H, C, O, Lf, K, r0, r1, r2, r3, r4)) :
  ∀ (k i : Nat) (H C : Nat → Int32), i + k = 128 → (∀ j, j < i → H j = C0 j ∧ C j = 0) → (∀ j, i ≤ j → C j = C0 j) → wX_beginRound_2 post d (nI c) (k + 1) (nI i) L db S G N B P T R F W nF nW H C O Lf K r0 r1 r2 r3 r4 := by
  intro k
  induction k with
  | zero =>
    intro i H C hi h1 h2
    have : i = 128 := by omega
    subst this
    exact br_t (by decide) ⟨65, mm_w_beg36 (fun nF nW z => hp nF nW H C z h1) 64 0 nF nW rfl (fun j hj => absurd hj (by omega))⟩
  | succ k ih =>
    intro i H C hi h1 h2
    have hin : vp_in (nI i) 128 := vp_in_nI (by omega) (by decide)
    refine br_f (nI_ge (b := 128) (by omega) (by decide)) ⟨hin, hin, nm_e ⟨hin, nm_e (nm_r (nI_1 i) ?_)⟩⟩
    rw [nI_clamp (n := i) (by omega)]
    refine ih (i + 1) _ _ (by omega) (fun j hj => ?_) (fun j hj => ?_)
    · by_cases ej : j = i
      · subst ej
        rw [pk_us, pk_us]; exact ⟨h2 j (Nat.le_refl j), rfl⟩
      · rw [pk_un ej, pk_un ej]; exact h1 j (by omega)
    · rw [pk_un (by omega)]; exact h2 j (by omega)
theorem mm_w_beg (hp : ∀ nF' nW' H' C' : Nat → Int32, (∀ j, j < 64 → nF' j = (if j / 8 = j % 8 then 0 else 8) ∧ nW' j = -1) → (∀ j, j < 128 → H' j = C j ∧ C' j = 0) → post (d, nI c, L, db, S, G, N, B, P, T, R, F, W, nF', nW', H', C', O, Lf, K, r0, r1, r2, r3, r4)) :
  wpX_beginRound post (d, nI c, L, db, S, G, N, B, P, T, R, F, W, nF, nW, H, C, O, Lf, K, r0, r1, r2, r3, r4) :=
  ⟨129, mm_w_beg2 C hp 128 0 H C rfl (fun j hj => absurd hj (by omega)) (fun _ _ => rfl)⟩
theorem mm_w_bel_l (hp : ∀ F W : Nat → Int32, (∀ j, j < 64 → F j = nF j ∧ W j = nW j) → post (d, nI c, L, db, S, G, N, B, P, T, R, F, W, nF, nW, H, C, O, Lf, K, r0, r1, r2, r3, r4)) :
  ∀ (k i : Nat) (F W : Nat → Int32), i + k = 64 → (∀ j, j < i → F j = nF j ∧ W j = nW j) → wX_believeWhatWasTold_2 post d (nI c) (k + 1) (nI i) L db S G N B P T R F W nF nW H C O Lf K r0 r1 r2 r3 r4 := by
  intro k
  induction k with
  | zero =>
    intro i F W hi h1
    have : i = 64 := by omega
    subst this
    exact br_t (by decide) (hp F W h1)
  | succ k ih =>
    intro i F W hi h1
    have hin : vp_in (nI i) 64 := vp_in_nI (by omega) (by decide)
    refine br_f (nI_ge (b := 64) (by omega) (by decide)) ⟨hin, hin, nm_e ⟨hin, hin, nm_e (nm_r (nI_1 i) ?_)⟩⟩
    rw [nI_clamp (n := i) (by omega)]
    refine ih (i + 1) _ _ (by omega) (fun j hj => ?_)
    by_cases ej : j = i
    · subst ej
      rw [pk_us, pk_us]; exact ⟨rfl, rfl⟩
    · rw [pk_un ej, pk_un ej]; exact h1 j (by omega)
theorem mm_w_bel (hp : ∀ F' W' : Nat → Int32, (∀ j, j < 64 → F' j = nF j ∧ W' j = nW j) → post (d, nI c, L, db, S, G, N, B, P, T, R, F', W', nF, nW, H, C, O, Lf, K, r0, r1, r2, r3, r4)) : wpX_believeWhatWasTold post (d, nI c, L, db, S, G, N, B, P, T, R, F, W, nF, nW, H, C, O, Lf, K, r0, r1, r2, r3, r4) :=
  ⟨65, mm_w_bel_l hp 64 0 F W rfl (fun j hj => absurd hj (by omega))⟩
end
