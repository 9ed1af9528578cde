def mm_st (x : Int32) : Prop := ∃ a, a < 8 ∧ x = nI a
def mm_st2 (x y : Int32) : Prop := ∃ a b, a < 8 ∧ b < 8 ∧ a ≠ b ∧ x = nI a ∧ y = nI b
theorem mm_st_no0 {x : Int32} (h : x < 0) : ¬ mm_st x := fun ⟨a, ha, e⟩ => by rw [e] at h; exact nI_pos (by omega) h
theorem mm_st_no8 {x : Int32} (h : nI 8 ≤ x) : ¬ mm_st x := fun ⟨a, ha, e⟩ => by
  rw [e, nI_leI (by omega) (by omega)] at h
  omega
theorem mm_x_st {po : Int32 → Prop} {x : Int32} (h1 : ∀ a, a < 8 → x = nI a → po 1) (h0 : ¬ mm_st x → po 0) : wpX_isStation po x := by
  rcases pk_ix x (n := 8) (by decide) with h | h | ⟨j, hj, rfl⟩
  · exact br_t h (h0 (mm_st_no0 h))
  · exact br_c (fun _ => h0 (mm_st_no8 h)) (fun _ => br_t h (h0 (mm_st_no8 h)))
  · exact br_f (nI_pos (by omega)) (br_f (nI_ge (b := 8) hj (by decide)) (h1 j hj rfl))
section
variable {d : Int32} {c : Nat} {L db S G N B P T R F W nF nW H C O Lf K r0 r1 r2 r3 r4 : Nat → Int32} {post : SX → Prop}
theorem mm_y_st {po : Int32 → Prop} {x : Int32} (h1 : ∀ a, a < 8 → x = nI a → po 1) (h0 : ¬ mm_st x → po 0) : wpY_station po (d, nI c, db, L, S, G, N, B, T) x := by
  rcases pk_ix x (n := 8) (by decide) with h | h | ⟨j, hj, rfl⟩
  · exact br_t h (h0 (mm_st_no0 h))
  · exact br_c (fun _ => h0 (mm_st_no8 h)) (fun _ => br_t (Int32.lt_of_lt_of_le (by decide) h) (h0 (mm_st_no8 h)))
  · exact br_f (nI_pos (by omega)) (br_f (nI_nlt (a := 7) (b := j) (by omega) (by decide)) (h1 j hj rfl))
theorem mm_x_two {po : Int32 → Prop} {x y : Int32} (h1 : ∀ a b, a < 8 → b < 8 → a ≠ b → x = nI a → y = nI b → po 1) (h0 : ¬ mm_st2 x y → po 0) : wpX_areTwoStations po x y := by
  refine mm_x_st (fun a ha ea => br_f (by decide) (mm_x_st (fun b hb eb => br_f (by decide) ?_) (fun hn => br_t rfl (h0 (fun ⟨_, b, _, hb, _, _, e⟩ => hn ⟨b, hb, e⟩))))) (fun hn => br_t rfl (h0 (fun ⟨a, _, ha, _, _, e, _⟩ => hn ⟨a, ha, e⟩)))
  refine pk_eq a b (fun e => h0 ?_) (fun e => h1 a b ha hb e ea eb) ea eb
  rintro ⟨a', b', ha', hb', hne, e1, e2⟩
  have h3 : a = a' := (nI_eq (by omega) (by omega)).mp (ea.symm.trans e1)
  have h4 : b = b' := (nI_eq (by omega) (by omega)).mp (eb.symm.trans e2)
  omega
theorem mm_y_two {po : Int32 → Prop} {x y : Int32} (h1 : ∀ a b, a < 8 → b < 8 → a ≠ b → x = nI a → y = nI b → po 1) (h0 : ¬ mm_st2 x y → po 0) : wpY_two po (d, nI c, db, L, S, G, N, B, T) x y := by
  unfold wpY_two
  dsimp only
  refine mm_y_st (fun a ha ea => br_f (by decide) (mm_y_st (fun b hb eb => br_f (by decide) ?_) (fun hn => br_t rfl (h0 (fun ⟨_, b, _, hb, _, _, e⟩ => hn ⟨b, hb, e⟩))))) (fun hn => br_t rfl (h0 (fun ⟨a, _, ha, _, _, e, _⟩ => hn ⟨a, ha, e⟩)))
  refine pk_eq a b (fun e => h0 ?_) (fun e => h1 a b ha hb e ea eb) ea eb
  rintro ⟨a', b', ha', hb', hne, e1, e2⟩
  have h3 : a = a' := (nI_eq (by omega) (by omega)).mp (ea.symm.trans e1)
  have h4 : b = b' := (nI_eq (by omega) (by omega)).mp (eb.symm.trans e2)
  omega
def mm_fu (L : Nat → Int32) (Rr : Int32) : Nat → Nat → Int32 → Int32
  | 0, _, f => f
  | k + 1, i, f => mm_fu L Rr k (i + 1) (if bt Rr i = true then f ||| L i else f)
theorem mm_fu_b (Rr : Int32) (y : Nat) : ∀ (k i : Nat) (f : Int32), bt (mm_fu L Rr k i f) y = true ↔ (bt f y = true ∨ ∃ x, i ≤ x ∧ x < i + k ∧ bt Rr x = true ∧ bt (L x) y = true) := by
  intro k
  induction k with
  | zero =>
    intro i f
    exact ⟨Or.inl, fun z => z.elim id (fun ⟨x, h1, h2, _⟩ => absurd h2 (by omega))⟩
  | succ k ih =>
    intro i f
    show bt (mm_fu L Rr k (i + 1) (if bt Rr i = true then f ||| L i else f)) y = true ↔ _
    rw [ih]
    by_cases e : bt Rr i = true
    · rw [if_pos e, b_or, Bool.or_eq_true]
      constructor
      · rintro ((z | z) | ⟨x, h1, h2, h3⟩)
        · exact Or.inl z
        · exact Or.inr ⟨i, by omega, by omega, e, z⟩
        · exact Or.inr ⟨x, by omega, by omega, h3⟩
      · rintro (z | ⟨x, h1, h2, h3, h4⟩)
        · exact Or.inl (Or.inl z)
        · by_cases ex : x = i
          · subst ex; exact Or.inl (Or.inr h4)
          · exact Or.inr ⟨x, by omega, by omega, h3, h4⟩
    · rw [if_neg e]
      constructor
      · rintro (z | ⟨x, h1, h2, h3⟩)
        · exact Or.inl z
        · exact Or.inr ⟨x, by omega, by omega, h3⟩
      · rintro (z | ⟨x, h1, h2, h3, h4⟩)
        · exact Or.inl z
        · by_cases ex : x = i
          · subst ex; exact absurd h3 e
          · exact Or.inr ⟨x, by omega, by omega, h3, h4⟩
theorem mm_x_fu {po : Int32 → Prop} {Rr : Int32} : ∀ (k i : Nat) (f : Int32), i + k = 8 → po (mm_fu L Rr k i f) → wX_oneLinkFurther_4 po Rr d (nI c) L db S G N B P T R F W nF nW H C O Lf K r0 r1 r2 r3 r4 (k + 1) f (nI i) := by
  intro k
  induction k with
  | zero =>
    intro i f hi hp
    have : i = 8 := by omega
    subst this
    exact br_t (by decide) hp
  | succ k ih =>
    intro i f hi hp
    refine br_f (nI_ge (b := 8) (by omega) (by decide)) (mm_w_hb (by omega) (fun hb => nm_r (nI_1 i) (ih (i + 1) f (by omega) ?_)) (fun hb => ⟨vp_in_nI (by omega) (by decide), nm_e (nm_r (nI_1 i) ?_)⟩))
    · have hp' : po (mm_fu L Rr k (i + 1) (if bt Rr i = true then f ||| L i else f)) := hp
      rw [if_neg (by rw [hb]; decide)] at hp'
      exact hp'
    · have hp' : po (mm_fu L Rr k (i + 1) (if bt Rr i = true then f ||| L i else f)) := hp
      rw [if_pos hb] at hp'
      rw [nI_clamp (n := i) (by omega)]
      exact ih (i + 1) _ (by omega) hp'
theorem mm_y_fu {po : Int32 → Prop} {J : Int32 → Int32 → Prop} {x2 Rr : Int32} {n : Nat} : ∀ (k i : Nat) (f : Int32), i + k = 8 → J (mm_fu L Rr k i f) (nI (n + 1)) → wY_distance_46 po J x2 Rr (nI n) d (nI c) db L S G N B T (k + 1) f (nI i) := by
  intro k
  induction k with
  | zero =>
    intro i f hi hp
    have : i = 8 := by omega
    subst this
    exact br_t (by decide) (nm_r (nI_1 n) hp)
  | succ k ih =>
    intro i f hi hp
    have hp' : J (mm_fu L Rr k (i + 1) (if bt Rr i = true then f ||| L i else f)) (nI (n + 1)) := hp
    refine br_f (nI_ge (b := 8) (by omega) (by decide)) (br_c (fun hb => ⟨vp_in_nI (by omega) (by decide), nm_e (nm_r (nI_1 i) ?_)⟩) (fun hb => nm_r (nI_1 i) (ih (i + 1) f (by omega) ?_)))
    · rw [mm_hb Rr (by omega)] at hb
      rw [if_pos hb] at hp'
      rw [nI_clamp (n := i) (by omega)]
      exact ih (i + 1) _ (by omega) hp'
    · rw [mm_hb Rr (by omega)] at hb
      rw [if_neg hb] at hp'
      exact hp'
def mm_ds (L : Nat → Int32) (a b : Nat) (r : Int32) : Prop := (r = -1 ∧ ¬ mm_cn L a b) ∨ (∃ n, n < 8 ∧ r = nI n ∧ mm_cn L a b)
theorem mm_dist_l {a b : Nat} {d' : Int32} (hL : mm_LK L) (ha : a < 8) (hb : b < 8) : ∀ (k n : Nat) (Rr : Int32), n + k = 8 → (∀ y, bt Rr y = true ↔ mm_wl L n a y) → (∀ j, j < n → ¬ mm_wl L j a b) → ∃ r, mm_ds L a b r ∧ (∀ po : Int32 → Prop, po r → wX_distance_23 po (nI b) d (nI c) L db S G N B P T R F W nF nW H C O Lf K r0 r1 r2 r3 r4 (k + 1) Rr (nI n)) ∧ (∀ po : Int32 → Prop, po r → wY_distance_25 po (nI b) d' (nI c) db L S G N B T (k + 1) Rr (nI n)) := by
  intro k
  induction k with
  | zero =>
    intro n Rr hn h1 h2
    have : n = 8 := by omega
    subst this
    have hnc : ¬ mm_cn L a b := fun z => h2 7 (by omega) ((mm_cn7 hL ha).mp z)
    refine ⟨-1, Or.inl ⟨rfl, hnc⟩, fun po hp => br_t (by decide) hp, fun po hp => br_t (by decide) (br_f ?_ hp)⟩
    rw [mm_hb Rr (by omega), h1 b]
    exact fun z => hnc ⟨8, z⟩
  | succ k ih =>
    intro n Rr hn h1 h2
    have h8 : ¬ (8 : Int32) ≤ nI n := nI_ge (b := 8) (by omega) (by decide)
    by_cases hbit : bt Rr b = true
    · refine ⟨nI n, Or.inr ⟨n, by omega, rfl, ⟨n, (h1 b).mp hbit⟩⟩, fun po hp => br_f h8 (mm_w_hb (by omega) (fun z => absurd hbit (by rw [z]; decide)) (fun _ => hp)), fun po hp => br_f h8 (br_f ?_ (br_t ((mm_hb Rr (by omega)).mpr hbit) hp))⟩
      rw [mm_hb0 Rr (by omega), hbit]
      decide
    · have hnw : ¬ mm_wl L n a b := fun z => hbit ((h1 b).mpr z)
      obtain ⟨r, h3, h4, h5⟩ := ih (n + 1) (mm_fu L Rr 8 0 Rr) (by omega) (fun y => by
        rw [mm_fu_b, h1 y]
        constructor
        · rintro (z | ⟨x, _, hx, z1, z2⟩)
          · exact Or.inl z
          · exact Or.inr ⟨x, by omega, (h1 x).mp z1, z2⟩
        · rintro (z | ⟨x, hx, z1, z2⟩)
          · exact Or.inl z
          · exact Or.inr ⟨x, by omega, by omega, (h1 x).mpr z1, z2⟩) (fun j hj => by
        by_cases e : j = n
        · subst e; exact hnw
        · exact h2 j (by omega))
      refine ⟨r, h3, fun po hp => br_f h8 (mm_w_hb (by omega) (fun _ => ⟨9, mm_x_fu 8 0 Rr rfl (nm_r (nI_1 n) (h4 po hp))⟩) (fun z => absurd z hbit)), fun po hp => br_f h8 (br_t ((mm_hb0 Rr (by omega)).mpr (Bool.eq_false_iff.mpr hbit)) ⟨9, mm_y_fu 8 0 Rr rfl (h5 po hp)⟩)⟩
theorem mm_dist {a b : Nat} {d' : Int32} (hL : mm_LK L) (ha : a < 8) (hb : b < 8) : ∃ r, mm_ds L a b r ∧ (∀ po : Int32 → Prop, po r → wpX_distance po (d, nI c, L, db, S, G, N, B, P, T, R, F, W, nF, nW, H, C, O, Lf, K, r0, r1, r2, r3, r4) (nI a) (nI b)) ∧ (∀ po : Int32 → Prop, po r → wpY_distance po (d', nI c, db, L, S, G, N, B, T) (nI a) (nI b)) := by
  obtain ⟨r, h3, h4, h5⟩ := mm_dist_l (d := d) (c := c) (db := db) (S := S) (G := G) (N := N) (B := B) (P := P) (T := T) (R := R) (F := F) (W := W) (nF := nF) (nW := nW) (H := H) (C := C) (O := O) (Lf := Lf) (K := K) (r0 := r0) (r1 := r1) (r2 := r2) (r3 := r3) (r4 := r4) (d' := d') hL ha hb 8 0 ((1 : Int32) <<< (nI a &&& 31)) rfl (fun y => by
    rw [mm_one (by omega)]
    exact ⟨fun z => z.symm, fun z => z.symm⟩) (fun j hj => absurd hj (by omega))
  refine ⟨r, h3, fun po hp => ?_, fun po hp => ?_⟩
  · unfold wpX_distance
    dsimp only
    exact mm_x_st (fun _ _ _ => br_f (by decide) (mm_x_st (fun _ _ _ => br_f (by decide) (nm_e ⟨9, h4 po hp⟩)) (fun z => absurd ⟨b, hb, rfl⟩ z))) (fun z => absurd ⟨a, ha, rfl⟩ z)
  · unfold wpY_distance
    dsimp only
    exact mm_y_st (fun _ _ _ => br_f (by decide) (mm_y_st (fun _ _ _ => br_f (by decide) (nm_e ⟨9, h5 po hp⟩)) (fun z => absurd ⟨b, hb, rfl⟩ z))) (fun z => absurd ⟨a, ha, rfl⟩ z)
theorem mm_neg : (-1 : Int32) < 0 := by decide
theorem mm_y_goes {po : Int32 → Prop} {m : Nat} (hL : mm_LK L) (hc : c ≤ 16) (hH : mm_HD c S G N) (hm : m < c) (h1 : T m = 0 → mm_cn L (mm_n (S m)) (mm_n (G m)) → po 1) (h0 : ¬ (T m = 0 ∧ mm_cn L (mm_n (S m)) (mm_n (G m))) → po 0) : wpY_goes po (d, nI c, db, L, S, G, N, B, T) (nI m) := by
  have hin : vp_in (nI m) 16 := vp_in_nI (by omega) (by decide)
  obtain ⟨eS, hs, eG, hg, -⟩ := hH m hm
  refine ⟨hin, ?_⟩
  rw [nI_clamp (n := m) (by omega)]
  refine br_c (fun e => ⟨hin, hin, ?_⟩) (fun e => h0 (fun z => e z.1))
  obtain ⟨r, h3, -, h5⟩ := mm_dist (d := d) (c := c) (db := db) (S := S) (G := G) (N := N) (B := B) (P := L) (T := T) (R := L) (F := L) (W := L) (nF := L) (nW := L) (H := L) (C := L) (O := L) (Lf := L) (K := L) (r0 := L) (r1 := L) (r2 := L) (r3 := L) (r4 := L) (d' := d) hL hs hg
  rw [eS, eG]
  apply h5
  rcases h3 with ⟨e1, e2⟩ | ⟨n, hn, e1, e2⟩
  · rw [e1]
    exact br_t mm_neg (h0 (fun z => e2 z.2))
  · rw [e1]
    exact br_f (nI_pos (by omega)) (h1 e e2)
end
