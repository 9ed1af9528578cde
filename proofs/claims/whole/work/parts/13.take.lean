def mm_mv (i : Nat) : Nat → Nat → (Nat → Int32) → (Nat → Int32)
  | 0, _, B => B
  | k + 1, x, B => mm_mv i k (x + 1) (upd B (i * 8 + x) (B ((i + 1) * 8 + x)))
theorem mm_88 (i x : Nat) : 8 * nI i + 8 + nI x = nI ((i + 1) * 8 + x) := by
  rw [mm_8, pk_mul, nI_add, nI_add]
  exact congrArg nI (by omega)
section
variable {d : Int32} {c : Nat} {L db S G N B P T R F W nF nW H C O Lf K r0 r1 r2 r3 r4 : Nat → Int32} {post : SX → Prop}
theorem mm_x_mv {i : Nat} (hi : i + 1 < 16) : ∀ (k x : Nat) (B : Nat → Int32), x + k = 8 → post (d, nI c, L, db, S, G, N, mm_mv i k x B, P, T, R, F, W, nF, nW, H, C, O, Lf, K, r0, r1, r2, r3, r4) → wX_moveUp_86 post (nI i) d (nI c) (k + 1) (nI x) L db S G N B P T R F W nF nW H C O Lf K r0 r1 r2 r3 r4 := by
  intro k
  induction k with
  | zero =>
    intro x B hx hp
    have : x = 8 := by omega
    subst this
    exact br_t (by decide) hp
  | succ k ih =>
    intro x B hx hp
    refine br_f (nI_ge (b := 8) (by omega) (by decide)) ?_
    rw [nI_1 i]
    refine ⟨pk_in ((i + 1) * 8 + x) 128 (by omega) (mm_i8 (i + 1) x), pk_in (i * 8 + x) 128 (by omega) (mm_i8 i x), nm_e (nm_r (nI_1 x) ?_)⟩
    rw [pk_cl ((i + 1) * 8 + x) (mm_i8 (i + 1) x), pk_cl (i * 8 + x) (mm_i8 i x)]
    exact ih (x + 1) _ (by omega) hp
theorem mm_x_mu {i : Nat} (hi : i + 1 < 16) (hp : post (d, nI c, L, db, upd S i (S (i + 1)), upd G i (G (i + 1)), upd N i (N (i + 1)), mm_mv i 8 0 B, upd P i (P (i + 1)), upd T i (vp_nar .boolean (T (i + 1))), upd R i (vp_nar .boolean (R (i + 1))), F, W, nF, nW, H, C, O, Lf, K, r0, r1, r2, r3, r4)) : wpX_moveUp post (d, nI c, L, db, S, G, N, B, P, T, R, F, W, nF, nW, H, C, O, Lf, K, r0, r1, r2, r3, r4) (nI i) := by
  unfold wpX_moveUp
  dsimp only
  rw [nI_1 i]
  have h1 : vp_in (nI (i + 1)) 16 := vp_in_nI hi (by decide)
  have h0 : vp_in (nI i) 16 := vp_in_nI (by omega) (by decide)
  rw [nI_clamp (n := i) (by omega), nI_clamp (n := i + 1) (by omega)]
  exact ⟨h1, h0, nm_e ⟨h1, h0, nm_e ⟨h1, h0, nm_e ⟨h1, h0, nm_e ⟨h1, h0, nm_e ⟨h1, h0, nm_e ⟨9, mm_x_mv hi 8 0 B rfl hp⟩⟩⟩⟩⟩⟩⟩
theorem mm_y_mv {po : Int32 → SY → Prop} {J : Int32 → (Nat → Int32) → (Nat → Int32) → (Nat → Int32) → (Nat → Int32) → (Nat → Int32) → (Nat → Int32) → (Nat → Int32) → Prop} {x4 : Int32} {i : Nat} (hi : i + 1 < 16) : ∀ (k x : Nat) (B : Nat → Int32), x + k = 8 → J (nI (i + 1)) db L S G N (mm_mv i k x B) T → wY_take_111 po J x4 (nI i) d (nI c) (k + 1) (nI x) db L S G N B T := by
  intro k
  induction k with
  | zero =>
    intro x B hx hp
    have : x = 8 := by omega
    subst this
    exact br_t (by decide) (nm_r (nI_1 i) hp)
  | succ k ih =>
    intro x B hx hp
    refine br_f (nI_ge (b := 8) (by omega) (by decide)) ⟨pk_in ((i + 1) * 8 + x) 128 (by omega) (mm_88 i x), pk_in (i * 8 + x) 128 (by omega) (mm_8i i x), nm_e (nm_r (nI_1 x) ?_)⟩
    rw [pk_cl ((i + 1) * 8 + x) (mm_88 i x), pk_cl (i * 8 + x) (mm_8i i x)]
    exact ih (x + 1) _ (by omega) hp
theorem mm_m1_up {S G N P T R : Nat → Int32} {n i : Nat} (hi : i + 1 < n) (h : ∀ m, m < n → mm_m1 (S m) (G m) (N m) (P m) (T m) (R m)) : ∀ m, m < n → mm_m1 (upd S i (S (i + 1)) m) (upd G i (G (i + 1)) m) (upd N i (N (i + 1)) m) (upd P i (P (i + 1)) m) (upd T i (vp_nar .boolean (T (i + 1))) m) (upd R i (vp_nar .boolean (R (i + 1))) m) := by
  intro m hm
  by_cases e : m = i
  · subst e
    rw [pk_us, pk_us, pk_us, pk_us, pk_us, pk_us]
    obtain ⟨h1, h2, h3⟩ := h (m + 1) hi
    rcases h2 with z | z
    · have := h3 z
      rw [z, this.1, this.2, mm_bl0]
      exact ⟨h1, Or.inl rfl, fun _ => ⟨rfl, rfl⟩⟩
    · rw [z, mm_bl]
      exact ⟨h1, Or.inr rfl, fun q => absurd q mm_10⟩
  · rw [pk_un e, pk_un e, pk_un e, pk_un e, pk_un e, pk_un e]
    exact h m hm
theorem mm_take_l {x4 : Int32} (hc : c + 1 ≤ 16) : ∀ (k i : Nat) (S G N B P T R : Nat → Int32), i + k = c → (∀ m, m < c + 1 → mm_m1 (S m) (G m) (N m) (P m) (T m) (R m)) →
  ∃ S' G' N' B' P' T' R' : Nat → Int32, (∀ m, m < c + 1 → mm_m1 (S' m) (G' m) (N' m) (P' m) (T' m) (R' m)) ∧ (∀ po : Int32 → SX → Prop, po x4 (d, nI c, L, db, S', G', N', B', P', T', R', F, W, nF, nW, H, C, O, Lf, K, r0, r1, r2, r3, r4) → wX_take_36 po x4 (k + 1) (nI i) d (nI c) L db S G N B P T R F W nF nW H C O Lf K r0 r1 r2 r3 r4) ∧ (∀ po : Int32 → SY → Prop, po x4 (d, nI c, db, L, S', G', N', B', T') → wY_take_35 po x4 d (nI c) (k + 1) (nI i) db L S G N B T) := by
  intro k
  induction k with
  | zero =>
    intro i S G N B P T R hi h
    have : i = c := by omega
    subst this
    exact ⟨S, G, N, B, P, T, R, h, fun po hp => br_t (nI_le (Nat.le_refl i) (by omega)) hp, fun po hp => br_t (nI_le (Nat.le_refl i) (by omega)) hp⟩
  | succ k ih =>
    intro i S G N B P T R hi h
    obtain ⟨S', G', N', B', P', T', R', h1, h2, h3⟩ := ih (i + 1) (upd S i (S (i + 1))) (upd G i (G (i + 1))) (upd N i (N (i + 1))) (mm_mv i 8 0 B) (upd P i (P (i + 1))) (upd T i (vp_nar .boolean (T (i + 1)))) (upd R i (vp_nar .boolean (R (i + 1)))) (by omega) (mm_m1_up (by omega) h)
    have hge : ¬ nI c ≤ nI i := nI_ge (by omega) (by omega)
    refine ⟨S', G', N', B', P', T', R', h1, fun po hp => br_f hge (mm_x_mu (by omega) (nm_r (nI_1 i) (h2 po hp))), fun po hp => br_f hge ?_⟩
    rw [nI_1 i]
    have g1 : vp_in (nI (i + 1)) 16 := vp_in_nI (by omega) (by decide)
    have g0 : vp_in (nI i) 16 := vp_in_nI (by omega) (by decide)
    rw [nI_clamp (n := i) (by omega), nI_clamp (n := i + 1) (by omega)]
    exact ⟨g1, g0, nm_e ⟨g1, g0, nm_e ⟨g1, g0, nm_e ⟨g1, g0, nm_e ⟨9, mm_y_mv (by omega) 8 0 B rfl (h3 po hp)⟩⟩⟩⟩⟩
end
theorem i_vc_take {k : Nat} {u : SX} {v : SY} (I : i_Rel k u v) (hk : k + 4 ≤ 2048) (v1 : Int32) (v2 : Int32) : wpX_take (fun r u' => wpY_take (fun r' v' => r' = r ∧ i_Rel (k + 4) u' v') v v1 v2) u v1 v2 := by
  obtain ⟨d, c, L, db, S, G, N, B, P, T, R, F, W, nF, nW, H, C, O, Lf, K, r0, r1, r2, r3, r4, rfl, rfl, h⟩ := I
  have ⟨hd, hc, hL, hm, hC, hr, hF, hO, hK⟩ := h
  unfold wpX_take wpY_take
  dsimp only
  obtain ⟨r, h1, h2, h3⟩ := mm_find (d := nI d) (c := c) (L := L) (db := db) (S := S) (G := G) (N := N) (B := B) (P := P) (T := T) (R := R) (F := F) (W := W) (nF := nF) (nW := nW) (H := H) (C := C) (O := O) (Lf := Lf) (K := K) (r0 := r0) (r1 := r1) (r2 := r2) (r3 := r3) (r4 := r4) (x := v1) (y := v2) (z := 0) hc
  refine h2 _ ?_
  rcases h1 with rfl | ⟨m, hmc, rfl⟩
  · exact br_t rfl (h3 _ (br_f mm_m1lt ⟨rfl, mm_rel h⟩))
  · have hin : vp_in (nI m) 16 := vp_in_nI (by omega) (by decide)
    have ec : nI c - 1 = nI (c - 1) := pk_sub (b := 1) (by omega)
    obtain ⟨S', G', N', B', P', T', R', g1, g2, g3⟩ := mm_take_l (d := nI d) (c := c - 1) (L := L) (db := db) (F := F) (W := W) (nF := nF) (nW := nW) (H := H) (C := C) (O := O) (Lf := Lf) (K := K) (r0 := r0) (r1 := r1) (r2 := r2) (r3 := r3) (r4 := r4) (x4 := N m) (by omega) (c - 1 - m) m S G N B P T R (by omega) (fun q hq => hm q (by omega))
    rw [nI_clamp (n := m) (by omega)]
    refine br_f (mm_nm1 (by omega)) ⟨hin, nm_e (nm_r ec ⟨c - 1 - m + 1, g2 _ (h3 _ (br_t (nI_pos' (by omega)) ⟨hin, ?_⟩))⟩)⟩
    rw [nI_clamp (n := m) (by omega)]
    exact nm_e (nm_r ec ⟨c - 1 - m + 1, g3 _ ⟨rfl, mm_rel ⟨hd, by omega, hL, fun q hq => g1 q (by omega), hC, hr, hF, hO, hK⟩⟩⟩)
section
variable {d : Int32} {c : Nat} {L db S G N B P T R F W nF nW H C O Lf K r0 r1 r2 r3 r4 : Nat → Int32} {post : SX → Prop}
theorem mm_ready_l (hL : mm_LK L) (hc : c ≤ 16) (hH : mm_HD c S G N) : ∀ (k i : Nat) (w : Int32), i + k = c → ∃ r, (∀ po : Int32 → Prop, po r → wX_ready_4 po d (nI c) L db S G N B P T R F W nF nW H C O Lf K r0 r1 r2 r3 r4 (k + 1) w (nI i)) ∧ (∀ po : Int32 → Prop, po r → wY_ready_4 po d (nI c) db L S G N B T (k + 1) w (nI i)) := by
  intro k
  induction k with
  | zero =>
    intro i w hi
    have : i = c := by omega
    subst this
    exact ⟨w, fun po hp => br_t (nI_le (Nat.le_refl i) (by omega)) hp, fun po hp => br_t (nI_le (Nat.le_refl i) (by omega)) hp⟩
  | succ k ih =>
    intro i w hi
    have hin : vp_in (nI i) 16 := vp_in_nI (by omega) (by decide)
    have hge : ¬ nI c ≤ nI i := nI_ge (by omega) (by omega)
    have hcl : (nI i).toNatClampNeg = i := nI_clamp (by omega)
    obtain ⟨eS, hs, eG, hg, -⟩ := hH i (by omega)
    by_cases e : T i = 0
    · obtain ⟨r, hr, hX, -⟩ := mm_dist (d := d) (c := c) (db := db) (S := S) (G := G) (N := N) (B := B) (P := P) (T := T) (R := R) (F := F) (W := W) (nF := nF) (nW := nW) (H := H) (C := C) (O := O) (Lf := Lf) (K := K) (r0 := r0) (r1 := r1) (r2 := r2) (r3 := r3) (r4 := r4) (d' := d) hL hs hg
      rw [← eS, ← eG] at hX
      rcases hr with ⟨er, hn⟩ | ⟨n, hn8, er, hcn⟩
      · obtain ⟨q, h2, h3⟩ := ih (i + 1) w (by omega)
        refine ⟨q, fun po hp => br_f hge ⟨hin, ?_⟩, fun po hp => br_f hge (mm_y_goes hL hc hH (by omega) (fun _ z => absurd z hn) (fun _ => br_t rfl (nm_r (nI_1 i) (h3 po hp))))⟩
        rw [hcl]
        exact br_t e ⟨hin, hin, hX _ (br_t er (nm_r (nI_1 i) (h2 po hp)))⟩
      · obtain ⟨q, h2, h3⟩ := ih (i + 1) (w + 1) (by omega)
        refine ⟨q, fun po hp => br_f hge ⟨hin, ?_⟩, fun po hp => br_f hge (mm_y_goes hL hc hH (by omega) (fun _ _ => br_f (by decide) (nm_e (nm_r (nI_1 i) (h3 po hp)))) (fun z => absurd ⟨e, hcn⟩ z))⟩
        rw [hcl]
        exact br_t e ⟨hin, hin, hX _ (br_f (by rw [er]; exact mm_nm1 (by omega)) (nm_e (nm_r (nI_1 i) (h2 po hp))))⟩
    · obtain ⟨q, h2, h3⟩ := ih (i + 1) w (by omega)
      refine ⟨q, fun po hp => br_f hge ⟨hin, ?_⟩, fun po hp => br_f hge (mm_y_goes hL hc hH (by omega) (fun z => absurd z e) (fun _ => br_t rfl (nm_r (nI_1 i) (h3 po hp))))⟩
      rw [hcl]
      exact br_f e (nm_r (nI_1 i) (h2 po hp))
end
theorem i_vc_ready {k : Nat} {u : SX} {v : SY} (I : i_Rel k u v) (hk : k + 4 ≤ 2048) : wpX_ready (fun r => wpY_ready (fun r' => r' = r ∧ i_Rel (k + 4) u v) v) u := by
  obtain ⟨d, c, L, db, S, G, N, B, P, T, R, F, W, nF, nW, H, C, O, Lf, K, r0, r1, r2, r3, r4, rfl, rfl, h⟩ := I
  obtain ⟨r, h2, h3⟩ := mm_ready_l (d := nI d) (c := c) (db := db) (S := S) (G := G) (N := N) (B := B) (P := P) (T := T) (R := R) (F := F) (W := W) (nF := nF) (nW := nW) (H := H) (C := C) (O := O) (Lf := Lf) (K := K) (r0 := r0) (r1 := r1) (r2 := r2) (r3 := r3) (r4 := r4) h.2.2.1 h.2.1 (mm_hd h.2.2.2.1) c 0 0 (by omega)
  exact ⟨c + 1, h2 _ ⟨c + 1, h3 _ ⟨rfl, mm_rel h⟩⟩⟩
