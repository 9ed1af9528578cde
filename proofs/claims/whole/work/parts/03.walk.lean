theorem mm_w_hb {A B : Prop} {x : Int32} {p : Nat} (hp : p < 32) (h0 : bt x p = false → A) (h1 : bt x p = true → B) : wpX_hasBit (fun r => ((r = 0 → A) ∧ (¬ r = 0 → B))) x (nI p) := by
  refine ⟨fun h => br_f (by decide) (h1 ((mm_hb x hp).mp h)), fun h => br_t rfl (h0 ?_)⟩
  cases e : bt x p with
  | false => rfl
  | true => exact (h ((mm_hb x hp).mpr e)).elim
def mm_nib (x : Int32) (b : Nat) : Int32 := ((x.toUInt32 >>> ((4 * nI b).toUInt32 &&& Int32.toUInt32 31)).toInt32) &&& 15
def mm_hr (x1 told : Int32) (nF0 nW0 nF nW : Nat → Int32) (j b : Nat) : Prop := (nF0 j ≤ mm_nib told b + 1 ∧ nF j = nF0 j ∧ nW j = nW0 j) ∨ (¬ nF0 j ≤ mm_nib told b + 1 ∧ nF j = mm_nib told b + 1 ∧ nW j = x1)
section
variable {d : Int32} {c : Nat} {L db S G N B P T R F W nF nW H C O Lf K r0 r1 r2 r3 r4 : Nat → Int32} {post : SX → Prop}
theorem mm_w_hear_l {to : Nat} {x1 told : Int32} (hto : to < 8) (nF0 nW0 : Nat → Int32)
  (hp : ∀ nF nW : Nat → Int32, (∀ j, ¬ (to * 8 ≤ j ∧ j < to * 8 + 8) → nF j = nF0 j ∧ nW j = nW0 j) → (∀ b, b < 8 → mm_hr x1 told nF0 nW0 nF nW (to * 8 + b) b) → post (d, nI c, L, db, S, G, N, B, P, T, R, F, W, nF, nW, H, C, O, Lf, K, r0, r1, r2, r3, r4)) :
  ∀ (k i : Nat) (nF nW : Nat → Int32), i + k = 8 → (∀ j, ¬ (to * 8 ≤ j ∧ j < to * 8 + i) → nF j = nF0 j ∧ nW j = nW0 j) → (∀ b, b < i → mm_hr x1 told nF0 nW0 nF nW (to * 8 + b) b) → wX_hearWays_3 post x1 (nI to) told d (nI c) (k + 1) (nI i) L db S G N B P T R F W nF nW H C O Lf K r0 r1 r2 r3 r4 := by
  intro k
  induction k with
  | zero =>
    intro i nF nW hi h1 h2
    have : i = 8 := by omega
    subst this
    exact br_t (by decide) (hp nF nW h1 h2)
  | succ k ih =>
    intro i nF nW hi h1 h2
    refine br_f (nI_ge (b := 8) (by omega) (by decide)) (nm_e ⟨pk_in (to * 8 + i) 64 (by omega) (mm_i8 to i), ?_⟩)
    rw [pk_cl (to * 8 + i) (mm_i8 to i)]
    have hu := h1 (to * 8 + i) (by omega)
    refine br_c (fun hle => nm_r (nI_1 i) (ih (i + 1) nF nW (by omega) ?_ ?_)) (fun hle => ⟨pk_in (to * 8 + i) 64 (by omega) (mm_i8 to i), nm_e ⟨pk_in (to * 8 + i) 64 (by omega) (mm_i8 to i), nm_e (nm_r (nI_1 i) (ih (i + 1) _ _ (by omega) ?_ ?_))⟩⟩)
    · intro j hj
      exact h1 j (by omega)
    · intro b hb
      by_cases e : b = i
      · subst e
        rw [hu.1] at hle
        exact Or.inl ⟨hle, hu.1, hu.2⟩
      · exact h2 b (by omega)
    · intro j hj
      have hne : j ≠ to * 8 + i := by omega
      rw [pk_un hne, pk_un hne]
      exact h1 j (by omega)
    · intro b hb
      by_cases e : b = i
      · subst e
        rw [hu.1] at hle
        exact Or.inr ⟨hle, pk_us, pk_us⟩
      · have hne : to * 8 + b ≠ to * 8 + i := by omega
        unfold mm_hr
        rw [pk_un hne, pk_un hne]
        exact h2 b (by omega)
theorem mm_w_hear {to : Nat} {x1 told : Int32} (hto : to < 8)
  (hp : ∀ nF' nW' : Nat → Int32, (∀ j, ¬ (to * 8 ≤ j ∧ j < to * 8 + 8) → nF' j = nF j ∧ nW' j = nW j) → (∀ b, b < 8 → mm_hr x1 told nF nW nF' nW' (to * 8 + b) b) → post (d, nI c, L, db, S, G, N, B, P, T, R, F, W, nF', nW', H, C, O, Lf, K, r0, r1, r2, r3, r4)) : wpX_hearWays post (d, nI c, L, db, S, G, N, B, P, T, R, F, W, nF, nW, H, C, O, Lf, K, r0, r1, r2, r3, r4) x1 (nI to) told :=
  ⟨9, mm_w_hear_l hto nF nW hp 8 0 nF nW rfl (fun _ _ => ⟨rfl, rfl⟩) (fun b hb => absurd hb (by omega))⟩
theorem mm_w_ho_w {to : Nat} {x1 told : Int32} (hto : to < 8)
  (hp : ∀ nF' nW' : Nat → Int32, (∀ j, ¬ (to * 8 ≤ j ∧ j < to * 8 + 8) → nF' j = nF j ∧ nW' j = nW j) → (∀ b, b < 8 → mm_hr x1 told nF nW nF' nW' (to * 8 + b) b) → post (d, nI c, L, db, S, G, N, B, P, T, R, F, W, nF', nW', H, C, O, Lf, K, r0, r1, r2, r3, r4)) : wpX_handOver post (d, nI c, L, db, S, G, N, B, P, T, R, F, W, nF, nW, H, C, O, Lf, K, r0, r1, r2, r3, r4) x1 (nI to) 144 told :=
  br_t rfl (mm_w_hear hto hp)
theorem mm_w_take {a m p s g : Nat} (ha : a < 8) (hm : m < 16) (hp : p < 9) (hs : s < 8) (hg : g < 8) (hS : S m = nI s) (hG : G m = nI g)
  (h1 : p = 8 → a = s → post (d, nI c, L, db, S, G, N, B, P, T, upd R m 1, F, W, nF, nW, H, C, O, Lf, K, r0, r1, r2, r3, r4))
  (h2 : p < 8 → a = g → T m = 0 → post (d, nI c, L, db, S, G, N, B, upd P m (P m ||| ((1 : Int32) <<< (nI p &&& 31))), T, R, F, W, nF, nW, H, C, O, Lf, K, r0, r1, r2, r3, r4))
  (h3 : p < 8 → a = g → ¬ T m = 0 → post (d, nI c, L, db, S, G, N, B, upd P m (P m ||| ((1 : Int32) <<< (nI p &&& 31))), T, R, F, W, nF, nW, H, upd C (a * 16 + m) (C (a * 16 + m) ||| ((1 : Int32) <<< (nI 8 &&& 31))), O, Lf, K, r0, r1, r2, r3, r4))
  (h4 : (p = 8 → a ≠ s) → (p < 8 → a ≠ g) → post (d, nI c, L, db, S, G, N, B, P, T, R, F, W, nF, nW, H, upd C (a * 16 + m) (C (a * 16 + m) ||| ((1 : Int32) <<< (nI p &&& 31))), O, Lf, K, r0, r1, r2, r3, r4)) :
  wpX_takeIn post (d, nI c, L, db, S, G, N, B, P, T, R, F, W, nF, nW, H, C, O, Lf, K, r0, r1, r2, r3, r4) (nI a) (nI m) (nI p) := by
  have h83 : (p = 8 → a ≠ s) → (p < 8 → a ≠ g) → wX_takeIn_83 post (nI a) (nI m) (nI p) d (nI c) L db S G N B P T R F W nF nW H C O Lf K r0 r1 r2 r3 r4 := by
    intro z1 z2
    refine ⟨pk_in (a * 16 + m) 128 (by omega) (mm_i16 a m), pk_in (a * 16 + m) 128 (by omega) (mm_i16 a m), nm_e ?_⟩
    rw [pk_cl (a * 16 + m) (mm_i16 a m)]
    exact h4 z1 z2
  have hmi : vp_in (nI m) 16 := vp_in_nI hm (by decide)
  have hmc : (nI m).toNatClampNeg = m := nI_clamp (by omega)
  have h26 : (p = 8 → a ≠ s) → wX_takeIn_26 post (nI a) (nI m) (nI p) d (nI c) L db S G N B P T R F W nF nW H C O Lf K r0 r1 r2 r3 r4 := by
    intro z1
    refine pk_eq p 8 (fun e => h83 z1 (fun z => absurd z (by omega))) (fun e => ⟨hmi, ?_⟩)
    rw [hmc, hG]
    refine pk_eq a g (fun e2 => ⟨hmi, hmi, nm_e ⟨hmi, br_c (fun z => h2 (by omega) e2 z) (fun z => ⟨pk_in (a * 16 + m) 128 (by omega) (mm_i16 a m), pk_in (a * 16 + m) 128 (by omega) (mm_i16 a m), nm_e ?_⟩)⟩⟩) (fun e2 => h83 z1 (fun _ => e2))
    rw [pk_cl (a * 16 + m) (mm_i16 a m), mm_256]
    exact h3 (by omega) e2 z
  refine pk_eq p 8 (fun e => ⟨hmi, ?_⟩) (fun e => h26 (fun z => absurd z e))
  rw [hmc, hS]
  refine pk_eq a s (fun e2 => ⟨hmi, nm_e ?_⟩) (fun e2 => h26 (fun _ => e2))
  rw [mm_bl]
  exact h1 e e2
theorem mm_w_ho_p {a m p s g : Nat} {x1 told : Int32} (ha : a < 8) (hm : m < 16) (hp : p < 9) (hs : s < 8) (hg : g < 8) (hS : S m = nI s) (hG : G m = nI g)
  (h1 : p = 8 → a = s → post (d, nI c, L, db, S, G, N, B, P, T, upd R m 1, F, W, nF, nW, H, C, O, Lf, K, r0, r1, r2, r3, r4))
  (h2 : p < 8 → a = g → T m = 0 → post (d, nI c, L, db, S, G, N, B, upd P m (P m ||| ((1 : Int32) <<< (nI p &&& 31))), T, R, F, W, nF, nW, H, C, O, Lf, K, r0, r1, r2, r3, r4))
  (h3 : p < 8 → a = g → ¬ T m = 0 → post (d, nI c, L, db, S, G, N, B, upd P m (P m ||| ((1 : Int32) <<< (nI p &&& 31))), T, R, F, W, nF, nW, H, upd C (a * 16 + m) (C (a * 16 + m) ||| ((1 : Int32) <<< (nI 8 &&& 31))), O, Lf, K, r0, r1, r2, r3, r4))
  (h4 : (p = 8 → a ≠ s) → (p < 8 → a ≠ g) → post (d, nI c, L, db, S, G, N, B, P, T, R, F, W, nF, nW, H, upd C (a * 16 + m) (C (a * 16 + m) ||| ((1 : Int32) <<< (nI p &&& 31))), O, Lf, K, r0, r1, r2, r3, r4)) :
  wpX_handOver post (d, nI c, L, db, S, G, N, B, P, T, R, F, W, nF, nW, H, C, O, Lf, K, r0, r1, r2, r3, r4) x1 (nI a) (nI (m * 9 + p)) told := by
  refine pk_eq (m * 9 + p) 144 (fun e => absurd e (by omega)) (fun e => ⟨by decide, by decide, ?_⟩)
  have e1 : nI (m * 9 + p) / 9 = nI m := by
    rw [mm_9, pk_div (by omega) (by omega) (by omega)]
    exact congrArg nI (by omega)
  have e2 : nI (m * 9 + p) - nI (m * 9 + p) / 9 * 9 = nI p := by
    rw [mm_9, pk_rem (by omega) (by omega) (by omega)]
    exact congrArg nI (by omega)
  rw [e2, e1]
  exact mm_w_take ha hm hp hs hg hS hG h1 h2 h3 h4
def mm_or (L O Lf : Nat → Int32) (τ : Nat → Nat) (i : Nat) : Prop := O i = -1 ∨ ∃ s l, s < 8 ∧ l ≤ 20 ∧ O i = nI s ∧ Lf i = nI l ∧ (∀ b, bt (L s) b = true → l + τ s ≤ 20)
def mm_t1 (τ : Nat → Nat) (a : Nat) : Nat → Nat := fun s => if s = a then τ s + 1 else τ s
theorem mm_w_fate_l {po : Int32 → SX → Prop} {a : Nat} {τ : Nat → Nat} (ha : a < 8) (b0 : Nat) (hb0 : bt (L a) b0 = true) (hK : ∀ i, i < 16 → ∃ k, k ≤ 2 ∧ K i = nI k)
  (hp : ∀ (f : Nat) (O Lf : Nat → Int32), f ≤ 3 → (f < 3 → τ a ≤ 20) → (∀ i, i < 16 → mm_or L O Lf (mm_t1 τ a) i) → po (nI f) (d, nI c, L, db, S, G, N, B, P, T, R, F, W, nF, nW, H, C, O, Lf, K, r0, r1, r2, r3, r4)) :
  ∀ (k i f : Nat) (O Lf : Nat → Int32), i + k = 16 → f ≤ 3 → (f < 3 → τ a ≤ 20) → (∀ j, j < i → mm_or L O Lf (mm_t1 τ a) j) → (∀ j, i ≤ j → j < 16 → mm_or L O Lf τ j) → wX_fateOfNextPiece_4 po (nI a) d (nI c) (k + 1) (nI f) (nI i) L db S G N B P T R F W nF nW H C O Lf K r0 r1 r2 r3 r4 := by
  intro k
  induction k with
  | zero =>
    intro i f O Lf hi hf hf3 h1 h2
    have : i = 16 := by omega
    subst this
    exact br_t (by decide) (hp f O Lf hf hf3 h1)
  | succ k ih =>
    intro i f O Lf hi hf hf3 h1 h2
    have hi16 : i < 16 := by omega
    have hin : vp_in (nI i) 16 := vp_in_nI hi16 (by decide)
    refine br_f (nI_ge (b := 16) hi16 (by decide)) ⟨hin, ?_⟩
    rw [nI_clamp (n := i) (by omega)]
    have hme := h2 i (Nat.le_refl i) hi16
    refine br_c (fun e => ⟨hin, ?_⟩) (fun e => nm_r (nI_1 i) (ih (i + 1) f O Lf (by omega) hf hf3 ?_ (fun j hj hj2 => h2 j (by omega) hj2)))
    · rcases hme with z | ⟨s, l, hs, hl, hO, hL, hq⟩
      · rw [z] at e
        exact absurd e.symm (mm_nm1 (by omega))
      · have hsa : s = a := (nI_eq (by omega) (by omega)).mp (hO.symm.trans e)
        subst hsa
        have hq0 := hq b0 hb0
        rw [hL]
        refine pk_eq l 0 (fun el => ⟨hin, ?_⟩) (fun el => ⟨hin, hin, nm_e (nm_r (nI_1 i) (ih (i + 1) f O _ (by omega) hf hf3 ?_ ?_))⟩)
        · obtain ⟨k2, hk2, eK⟩ := hK i hi16
          refine nm_r eK ⟨hin, nm_e (nm_r (nI_1 i) (ih (i + 1) k2 _ Lf (by omega) (by omega) (fun _ => by omega) ?_ ?_))⟩
          · intro j hj
            by_cases ej : j = i
            · subst ej
              exact Or.inl pk_us
            · unfold mm_or
              rw [pk_un ej]
              exact h1 j (by omega)
          · intro j hj hj2
            unfold mm_or
            rw [pk_un (by omega)]
            exact h2 j (by omega) hj2
        · intro j hj
          by_cases ej : j = i
          · subst ej
            refine Or.inr ⟨s, l - 1, hs, by omega, hO, ?_, ?_⟩
            · rw [pk_us]
              exact pk_sub (b := 1) (by omega)
            · intro b hb
              have h5 := hq b hb
              unfold mm_t1
              rw [if_pos rfl]
              omega
          · unfold mm_or
            rw [pk_un ej]
            exact h1 j (by omega)
        · intro j hj hj2
          unfold mm_or
          rw [pk_un (by omega)]
          exact h2 j (by omega) hj2
    · intro j hj
      by_cases ej : j = i
      · subst ej
        rcases hme with z | ⟨s, l, hs, hl, hO, hL, hq⟩
        · exact Or.inl z
        · refine Or.inr ⟨s, l, hs, hl, hO, hL, fun b hb => ?_⟩
          have hsa : s ≠ a := fun z => e (by rw [hO, z])
          unfold mm_t1
          rw [if_neg hsa]
          exact hq b hb
      · exact h1 j (by omega)
theorem mm_w_keep_l {x1 x2 x3 x4 : Int32} (h0 : post (d, nI c, L, db, S, G, N, B, P, T, R, F, W, nF, nW, H, C, O, Lf, K, r0, r1, r2, r3, r4)) (h1 : ∀ i, i < 16 → r0 i = 0 → post (d, nI c, L, db, S, G, N, B, P, T, R, F, W, nF, nW, H, C, O, Lf, K, upd r0 i 3, upd r1 i x1, upd r2 i x2, upd r3 i x3, upd r4 i x4)) :
  ∀ k i : Nat, i + k = 16 → wX_keepLate_3 post x1 x2 x3 x4 d (nI c) L db S G N B P T R F W nF nW H C O Lf K r0 r1 r2 r3 r4 (k + 1) (nI i) := by
  intro k
  induction k with
  | zero =>
    intro i hi
    have : i = 16 := by omega
    subst this
    exact br_t (by decide) h0
  | succ k ih =>
    intro i hi
    have hi16 : i < 16 := by omega
    have hin : vp_in (nI i) 16 := vp_in_nI hi16 (by decide)
    refine br_f (nI_ge (b := 16) hi16 (by decide)) ⟨hin, ?_⟩
    rw [nI_clamp (n := i) (by omega)]
    exact br_c (fun e => ⟨hin, nm_e ⟨hin, nm_e ⟨hin, nm_e ⟨hin, nm_e ⟨hin, nm_e (h1 i hi16 e)⟩⟩⟩⟩⟩) (fun e => nm_r (nI_1 i) (ih (i + 1) (by omega)))
def mm_lt (Z : Int32 → Int32 → Int32 → Prop) (q : Nat) (r0 r1 r2 r3 : Nat → Int32) (i : Nat) : Prop := ∃ r, r ≤ 3 ∧ r0 i = nI r ∧ (r = 0 ∨ (r + q ≤ 24 ∧ Z (r1 i) (r2 i) (r3 i)))
theorem mm_w_send {Z : Int32 → Int32 → Int32 → Prop} {q a : Nat} {τ : Nat → Nat} {x2 x3 x4 : Int32} (ha : a < 8) (b0 : Nat) (hb0 : bt (L a) b0 = true) (hK : ∀ i, i < 16 → ∃ k, k ≤ 2 ∧ K i = nI k)
  (hO : ∀ i, i < 16 → mm_or L O Lf τ i) (hT : ∀ i, i < 16 → mm_lt Z q r0 r1 r2 r3 i) (hq : τ a ≤ 20 → 3 + q ≤ 24) (hZ : Z (nI a) x2 x3)
  (hN : ∀ O Lf r0 r1 r2 r3 r4 : Nat → Int32, (∀ i, i < 16 → mm_or L O Lf (mm_t1 τ a) i) → (∀ i, i < 16 → mm_lt Z q r0 r1 r2 r3 i) → τ a ≤ 20 → post (d, nI c, L, db, S, G, N, B, P, T, R, F, W, nF, nW, H, C, O, Lf, K, r0, r1, r2, r3, r4))
  (hD : ∀ O Lf r0 r1 r2 r3 r4 : Nat → Int32, (∀ i, i < 16 → mm_or L O Lf (mm_t1 τ a) i) → (∀ i, i < 16 → mm_lt Z q r0 r1 r2 r3 i) → wpX_handOver post (d, nI c, L, db, S, G, N, B, P, T, R, F, W, nF, nW, H, C, O, Lf, K, r0, r1, r2, r3, r4) (nI a) x2 x3 x4) :
  wpX_send post (d, nI c, L, db, S, G, N, B, P, T, R, F, W, nF, nW, H, C, O, Lf, K, r0, r1, r2, r3, r4) (nI a) x2 x3 x4 := by
  refine ⟨17, mm_w_fate_l ha b0 hb0 hK ?_ 16 0 3 O Lf rfl (by omega) (fun z => absurd z (by omega)) (fun j hj => absurd hj (by omega)) (fun j _ hj => hO j hj)⟩
  intro f O Lf hf hf3 hO'
  have hk : τ a ≤ 20 → ∀ i, i < 16 → r0 i = 0 → ∀ j, j < 16 → mm_lt Z q (upd r0 i 3) (upd r1 i (nI a)) (upd r2 i x2) (upd r3 i x3) j := by
    intro ht i hi _ j hj
    by_cases e : j = i
    · subst e
      refine ⟨3, by omega, pk_us, Or.inr ⟨hq ht, ?_⟩⟩
      rw [pk_us, pk_us, pk_us]
      exact hZ
    · unfold mm_lt
      rw [pk_un e, pk_un e, pk_un e, pk_un e]
      exact hT j hj
  rcases (by omega : f = 0 ∨ f = 1 ∨ f = 2 ∨ f = 3) with rfl | rfl | rfl | rfl
  · exact br_f (by decide) (br_f (by decide) (br_f (by decide) (br_f (by decide) (hN O Lf r0 r1 r2 r3 r4 hO' hT (hf3 (by omega))))))
  · refine br_t rfl ⟨17, mm_w_keep_l ?_ ?_ 16 0 rfl⟩
    · exact br_t rfl (hD O Lf r0 r1 r2 r3 r4 hO' hT)
    · intro i hi hz
      exact br_t rfl (hD O Lf _ _ _ _ _ hO' (hk (hf3 (by omega)) i hi hz))
  · refine br_f (by decide) (br_t rfl ⟨17, mm_w_keep_l ?_ ?_ 16 0 rfl⟩)
    · exact br_f (by decide) (br_f (by decide) (hN O Lf r0 r1 r2 r3 r4 hO' hT (hf3 (by omega))))
    · intro i hi hz
      exact br_f (by decide) (br_f (by decide) (hN O Lf _ _ _ _ _ hO' (hk (hf3 (by omega)) i hi hz) (hf3 (by omega))))
  · exact br_f (by decide) (br_f (by decide) (br_f (by decide) (br_t rfl (hD O Lf r0 r1 r2 r3 r4 hO' hT))))
end
