def mm_m1 (s g n p t r : Int32) : Prop := (s = nI (mm_n s) ∧ mm_n s < 8 ∧ g = nI (mm_n g) ∧ mm_n g < 8 ∧ mm_n s ≠ mm_n g ∧ n = nI (mm_n n) ∧ mm_n n < 9) ∧ (t = 0 ∨ t = 1) ∧ (t = 0 → p = 0 ∧ r = 0)
def mm_or0 (O Lf : Nat → Int32) (i : Nat) : Prop := O i = -1 ∨ ∃ s l, s < 8 ∧ l ≤ 20 ∧ O i = nI s ∧ Lf i = nI l
def mm_Rl (d c : Nat) (L S G N P T R F W C O Lf K r0 : Nat → Int32) : Prop :=
  d ≤ 8 ∧ c ≤ 16 ∧ mm_LK L ∧ (∀ m, m < c → mm_m1 (S m) (G m) (N m) (P m) (T m) (R m)) ∧ (∀ h, h < 128 → C h = 0) ∧ (∀ i, i < 16 → r0 i = 0) ∧ mm_NF F W ∧ (∀ i, i < 16 → mm_or0 O Lf i) ∧ (∀ i, i < 16 → ∃ k, k ≤ 2 ∧ K i = nI k)
def i_Rel (_ : Nat) (u : SX) (v : SY) : Prop := ∃ (d c : Nat) (L db S G N B P T R F W nF nW H C O Lf K r0 r1 r2 r3 r4 : Nat → Int32), u = (nI d, nI c, L, db, S, G, N, B, P, T, R, F, W, nF, nW, H, C, O, Lf, K, r0, r1, r2, r3, r4) ∧ v = (nI d, nI c, db, L, S, G, N, B, T) ∧ mm_Rl d c L S G N P T R F W C O Lf K r0
theorem mm_rel {k d c : Nat} {L db S G N B P T R F W nF nW H C O Lf K r0 r1 r2 r3 r4 : Nat → Int32} (h : mm_Rl d c L S G N P T R F W C O Lf K r0) : i_Rel k (nI d, nI c, L, db, S, G, N, B, P, T, R, F, W, nF, nW, H, C, O, Lf, K, r0, r1, r2, r3, r4) (nI d, nI c, db, L, S, G, N, B, T) := ⟨d, c, L, db, S, G, N, B, P, T, R, F, W, nF, nW, H, C, O, Lf, K, r0, r1, r2, r3, r4, rfl, rfl, h⟩
theorem i_up {k : Nat} {u : SX} {v : SY} (h : i_Rel k u v) : i_Rel (k + 4) u v := h
theorem mm_hd {c : Nat} {S G N P T R : Nat → Int32} (h : ∀ m, m < c → mm_m1 (S m) (G m) (N m) (P m) (T m) (R m)) : mm_HD c S G N := fun m hm => (h m hm).1
theorem i_vc_write {k : Nat} {u : SX} {v : SY} (I : i_Rel k u v) (hk : k + 4 ≤ 2048) (v1 : Int32) : wpX_write (fun r u' => wpY_write (fun r' v' => r' = r ∧ i_Rel (k + 4) u' v') v v1) u v1 := by
  obtain ⟨d, c, L, db, S, G, N, B, P, T, R, F, W, nF, nW, H, C, O, Lf, K, r0, r1, r2, r3, r4, rfl, rfl, h⟩ := I
  have hd := h.1
  refine br_c (fun h0 => br_t h0 ⟨rfl, mm_rel h⟩) (fun h0 => br_c (fun h1 => ?_) (fun h1 => br_f h0 (br_f h1 ⟨rfl, mm_rel h⟩)))
  refine pk_lt d 8 (fun h2 => ?_) (fun h2 => br_f h0 (br_t h1 (br_f (nI_nlt (b := 8) h2 (by omega)) ⟨rfl, mm_rel h⟩)))
  have hin : vp_in (nI d) 8 := vp_in_nI h2 (by decide)
  refine ⟨hin, nm_e (nm_r (nI_1 d) (br_f h0 (br_t h1 (br_t (nI_lt (b := 8) h2 (by decide)) ⟨hin, nm_e (nm_r (nI_1 d) ⟨rfl, mm_rel ?_⟩)⟩))))⟩
  exact ⟨by omega, h.2⟩
theorem i_vc_draft {k : Nat} {u : SX} {v : SY} (I : i_Rel k u v) (hk : k + 4 ≤ 2048) : wpX_draft (fun r => wpY_draft (fun r' => r' = r ∧ i_Rel (k + 4) u v) v) u := by
  obtain ⟨d, c, L, db, S, G, N, B, P, T, R, F, W, nF, nW, H, C, O, Lf, K, r0, r1, r2, r3, r4, rfl, rfl, h⟩ := I
  exact ⟨rfl, mm_rel h⟩
theorem i_vc_messages {k : Nat} {u : SX} {v : SY} (I : i_Rel k u v) (hk : k + 4 ≤ 2048) : wpX_messages (fun r => wpY_messages (fun r' => r' = r ∧ i_Rel (k + 4) u v) v) u := by
  obtain ⟨d, c, L, db, S, G, N, B, P, T, R, F, W, nF, nW, H, C, O, Lf, K, r0, r1, r2, r3, r4, rfl, rfl, h⟩ := I
  exact ⟨rfl, mm_rel h⟩
def mm_cp (db : Nat → Int32) (c : Nat) : Nat → Nat → (Nat → Int32) → (Nat → Int32)
  | 0, _, B => B
  | k + 1, i, B => mm_cp db c k (i + 1) (upd B (c * 8 + i) (db i))
section
variable {d c : Nat} {L db S G N B P T R F W nF nW H C O Lf K r0 r1 r2 r3 r4 : Nat → Int32}
theorem mm_x_post {po : Int32 → SX → Prop} (hd : d ≤ 8) (hc : c < 16) : ∀ (k i : Nat) (B : Nat → Int32), i + k = d → po (nI (c + 1)) (0, nI (c + 1), L, db, S, G, N, mm_cp db c k i B, upd P c 0, upd T c 0, upd R c 0, F, W, nF, nW, H, C, O, Lf, K, r0, r1, r2, r3, r4) → wX_post_54 po (nI c) (nI d) (nI c) (k + 1) (nI i) L db S G N B P T R F W nF nW H C O Lf K r0 r1 r2 r3 r4 := by
  intro k
  induction k with
  | zero =>
    intro i B hi hp
    have : i = d := by omega
    subst this
    have hin : vp_in (nI c) 16 := vp_in_nI hc (by decide)
    refine br_t (nI_le (Nat.le_refl i) (by omega)) ⟨hin, nm_e ⟨hin, nm_e ⟨hin, nm_e (nm_r (nI_1 c) ?_)⟩⟩⟩
    rw [nI_clamp (n := c) (by omega), mm_bl0]
    exact hp
  | succ k ih =>
    intro i B hi hp
    refine br_f (nI_ge (by omega) (by omega)) ⟨vp_in_nI (by omega) (by decide), pk_in (c * 8 + i) 128 (by omega) (mm_i8 c i), nm_e (nm_r (nI_1 i) ?_)⟩
    rw [pk_cl (c * 8 + i) (mm_i8 c i), nI_clamp (n := i) (by omega)]
    exact ih (i + 1) _ (by omega) hp
theorem mm_y_post {po : Int32 → SY → Prop} (hd : d ≤ 8) (hc : c < 16) : ∀ (k i : Nat) (B : Nat → Int32), i + k = d → po (nI (c + 1)) (0, nI (c + 1), db, L, S, G, N, mm_cp db c k i B, T) → wY_post_68 po (nI d) (nI c) (k + 1) (nI i) db L S G N B T := by
  intro k
  induction k with
  | zero =>
    intro i B hi hp
    have : i = d := by omega
    subst this
    exact br_t (nI_le (Nat.le_refl i) (by omega)) (nm_r (nI_1 c) hp)
  | succ k ih =>
    intro i B hi hp
    refine br_f (nI_ge (by omega) (by omega)) ⟨vp_in_nI (by omega) (by decide), pk_in (c * 8 + i) 128 (by omega) (mm_8i c i), nm_e (nm_r (nI_1 i) ?_)⟩
    rw [pk_cl (c * 8 + i) (mm_8i c i), nI_clamp (n := i) (by omega)]
    exact ih (i + 1) _ (by omega) hp
end
theorem i_vc_post {k : Nat} {u : SX} {v : SY} (I : i_Rel k u v) (hk : k + 4 ≤ 2048) (v1 : Int32) (v2 : Int32) : wpX_post (fun r u' => wpY_post (fun r' v' => r' = r ∧ i_Rel (k + 4) u' v') v v1 v2) u v1 v2 := by
  obtain ⟨d, c, L, db, S, G, N, B, P, T, R, F, W, nF, nW, H, C, O, Lf, K, r0, r1, r2, r3, r4, rfl, rfl, h⟩ := I
  have ⟨hd, hc, hL, hm, hC, hr, hF, hO, hK⟩ := h
  unfold wpX_post wpY_post
  dsimp only
  refine mm_x_two (fun a b ha hb hab ea eb => br_f (by decide) ?_) (fun hn => br_t rfl (mm_y_two (fun a b ha hb hab ea eb => absurd ⟨a, b, ha, hb, hab, ea, eb⟩ hn) (fun _ => br_t rfl ⟨rfl, mm_rel h⟩)))
  have hY2 : mm_st2 v1 v2 := ⟨a, b, ha, hb, hab, ea, eb⟩
  refine pk_lt c 16 (fun h16 => ?_) (fun h16 => mm_y_two (fun _ _ _ _ _ _ _ => br_f (by decide) (br_f (nI_nlt (b := 16) h16 (by omega)) ⟨rfl, mm_rel h⟩)) (fun z => absurd hY2 z))
  have hin : vp_in (nI c) 16 := vp_in_nI h16 (by decide)
  refine ⟨hin, nm_e ⟨hin, nm_e ⟨hin, nm_e ⟨d + 1, ?_⟩⟩⟩⟩
  rw [nI_clamp (n := c) (by omega)]
  refine mm_x_post hd h16 d 0 B (by omega) (mm_y_two (fun _ _ _ _ _ _ _ => br_f (by decide) (br_t (nI_lt (b := 16) h16 (by decide)) ⟨hin, nm_e ⟨hin, nm_e ⟨hin, nm_e ⟨hin, nm_e ⟨d + 1, ?_⟩⟩⟩⟩⟩)) (fun z => absurd hY2 z))
  rw [mm_bl0]
  refine mm_y_post hd h16 d 0 B (by omega) ⟨rfl, mm_rel (d := 0) ?_⟩
  refine ⟨by omega, by omega, hL, fun m hm1 => ?_, hC, hr, hF, hO, hK⟩
  by_cases e : m = c
  · subst e
    rw [pk_us, pk_us, pk_us, pk_us, pk_us, pk_us, ea, eb]
    refine ⟨?_, Or.inl rfl, fun _ => ⟨rfl, rfl⟩⟩
    rw [mm_nI (by omega), mm_nI (by omega), mm_nI (by omega)]
    exact ⟨rfl, ha, rfl, hb, hab, rfl, by omega⟩
  · rw [pk_un e, pk_un e, pk_un e, pk_un e, pk_un e, pk_un e]
    exact hm m (by omega)
theorem mm_cb {L : Nat → Int32} {a b x y : Nat} (hb : b < 32) (hy : y < 32) : bt (upd L a (L a &&& (((1 : Int32) <<< (nI b &&& 31)) ^^^ (-1))) x) y = true ↔ (bt (L x) y = true ∧ ¬ (x = a ∧ y = b)) := by
  by_cases h : x = a
  · subst h
    rw [pk_us, b_and, b_xor, b_m1 y hy, Bool.and_eq_true, Bool.xor_true, Bool.not_eq_true', ← Bool.not_eq_true, mm_one hb]
    simp
  · rw [pk_un h]
    simp [h]
theorem mm_LK_up {L : Nat → Int32} {a b : Nat} (hL : mm_LK L) (ha : a < 8) (hb : b < 8) (hab : a ≠ b) : mm_LK (upd (upd L a (L a ||| ((1 : Int32) <<< (nI b &&& 31)))) b ((upd L a (L a ||| ((1 : Int32) <<< (nI b &&& 31)))) b ||| ((1 : Int32) <<< (nI a &&& 31)))) := by
  intro x hx y hy
  rw [mm_ob (by omega), mm_ob (by omega)] at hy
  rw [mm_ob (by omega), mm_ob (by omega)]
  rcases hy with (z | ⟨z1, z2⟩) | ⟨z1, z2⟩
  · have := hL x hx y z
    exact ⟨this.1, this.2.1, Or.inl (Or.inl this.2.2)⟩
  · subst z1; subst z2
    exact ⟨hb, fun z => hab z.symm, Or.inr ⟨rfl, rfl⟩⟩
  · subst z1; subst z2
    exact ⟨ha, hab, Or.inl (Or.inr ⟨rfl, rfl⟩)⟩
theorem mm_LK_dn {L : Nat → Int32} {a b : Nat} (hL : mm_LK L) (ha : a < 8) (hb : b < 8) : mm_LK (upd (upd L a (L a &&& (((1 : Int32) <<< (nI b &&& 31)) ^^^ (-1)))) b ((upd L a (L a &&& (((1 : Int32) <<< (nI b &&& 31)) ^^^ (-1)))) b &&& (((1 : Int32) <<< (nI a &&& 31)) ^^^ (-1)))) := by
  intro x hx y hy
  have hy32 : y < 32 := by
    rcases Nat.lt_or_ge y 32 with z | z
    · exact z
    · rw [b_big z] at hy; cases hy
  rw [mm_cb (by omega) hy32, mm_cb (by omega) hy32] at hy
  obtain ⟨⟨z1, z2⟩, z3⟩ := hy
  have := hL x hx y z1
  rw [mm_cb (by omega) (by omega), mm_cb (by omega) (by omega)]
  exact ⟨this.1, this.2.1, ⟨this.2.2, fun z => z3 ⟨z.2, z.1⟩⟩, fun z => z2 ⟨z.2, z.1⟩⟩
theorem i_vc_link {k : Nat} {u : SX} {v : SY} (I : i_Rel k u v) (hk : k + 4 ≤ 2048) (v1 : Int32) (v2 : Int32) (v3 : Int32) : wpX_link (fun r u' => wpY_link (fun r' v' => r' = r ∧ i_Rel (k + 4) u' v') v v1 v2 (lw_bz v3)) u v1 v2 (lw_bz v3) := by
  obtain ⟨d, c, L, db, S, G, N, B, P, T, R, F, W, nF, nW, H, C, O, Lf, K, r0, r1, r2, r3, r4, rfl, rfl, h⟩ := I
  have ⟨hd, hc, hL, hm, hC, hr, hF, hO, hK⟩ := h
  unfold wpX_link wpY_link
  dsimp only
  refine mm_x_two (fun a b ha hb hab ea eb => br_f (by decide) ?_) (fun hn => br_t rfl (mm_y_two (fun a b ha hb hab ea eb => absurd ⟨a, b, ha, hb, hab, ea, eb⟩ hn) (fun _ => br_t rfl ⟨rfl, mm_rel h⟩)))
  have hY2 : mm_st2 v1 v2 := ⟨a, b, ha, hb, hab, ea, eb⟩
  rw [ea, eb] at *
  have hia : vp_in (nI a) 8 := vp_in_nI ha (by decide)
  have hib : vp_in (nI b) 8 := vp_in_nI hb (by decide)
  rw [nI_clamp (n := a) (by omega), nI_clamp (n := b) (by omega)]
  refine br_c (fun e => ⟨hia, hia, nm_e ⟨hib, hib, nm_e (mm_y_two (fun _ _ _ _ _ _ _ => br_f (by decide) (br_t e ⟨hia, ⟨hia, nm_e (br_t e ⟨hib, hib, nm_e ?_⟩)⟩⟩)) (fun z => absurd hY2 z))⟩⟩) (fun e => ⟨hia, hia, nm_e ⟨hib, hib, nm_e (mm_y_two (fun _ _ _ _ _ _ _ => br_f (by decide) (br_f e ⟨hia, ⟨hia, nm_e (br_f e ⟨hib, hib, nm_e ?_⟩)⟩⟩)) (fun z => absurd hY2 z))⟩⟩)
  · rw [nI_clamp (n := a) (by omega), nI_clamp (n := b) (by omega)]
    exact ⟨rfl, mm_rel ⟨hd, hc, mm_LK_dn hL ha hb, hm, hC, hr, hF, hO, hK⟩⟩
  · rw [nI_clamp (n := a) (by omega), nI_clamp (n := b) (by omega)]
    exact ⟨rfl, mm_rel ⟨hd, hc, mm_LK_up hL ha hb hab, hm, hC, hr, hF, hO, hK⟩⟩
theorem i_vc_links {k : Nat} {u : SX} {v : SY} (I : i_Rel k u v) (hk : k + 4 ≤ 2048) (v1 : Int32) : wpX_links (fun r => wpY_links (fun r' => r' = r ∧ i_Rel (k + 4) u v) v v1) u v1 := by
  obtain ⟨d, c, L, db, S, G, N, B, P, T, R, F, W, nF, nW, H, C, O, Lf, K, r0, r1, r2, r3, r4, rfl, rfl, h⟩ := I
  unfold wpX_links wpY_links
  dsimp only
  refine mm_x_st (fun a ha ea => br_f (by decide) ?_) (fun hn => br_t rfl (mm_y_st (fun a ha ea => absurd ⟨a, ha, ea⟩ hn) (fun _ => br_t rfl ⟨rfl, mm_rel h⟩)))
  have hia : vp_in v1 8 := by rw [ea]; exact vp_in_nI ha (by decide)
  exact ⟨hia, mm_y_st (fun _ _ _ => br_f (by decide) ⟨hia, rfl, mm_rel h⟩) (fun z => absurd ⟨a, ha, ea⟩ z)⟩
theorem i_vc_distance {k : Nat} {u : SX} {v : SY} (I : i_Rel k u v) (hk : k + 4 ≤ 2048) (v1 : Int32) (v2 : Int32) : wpX_distance (fun r => wpY_distance (fun r' => r' = r ∧ i_Rel (k + 4) u v) v v1 v2) u v1 v2 := by
  obtain ⟨d, c, L, db, S, G, N, B, P, T, R, F, W, nF, nW, H, C, O, Lf, K, r0, r1, r2, r3, r4, rfl, rfl, h⟩ := I
  by_cases h1 : mm_st v1
  · by_cases h2 : mm_st v2
    · obtain ⟨a, ha, rfl⟩ := h1
      obtain ⟨b, hb, rfl⟩ := h2
      obtain ⟨r, -, hX, hY⟩ := mm_dist (d := nI d) (c := c) (db := db) (S := S) (G := G) (N := N) (B := B) (P := P) (T := T) (R := R) (F := F) (W := W) (nF := nF) (nW := nW) (H := H) (C := C) (O := O) (Lf := Lf) (K := K) (r0 := r0) (r1 := r1) (r2 := r2) (r3 := r3) (r4 := r4) (d' := nI d) h.2.2.1 ha hb
      exact hX _ (hY _ ⟨rfl, mm_rel h⟩)
    · unfold wpX_distance wpY_distance
      dsimp only
      exact mm_x_st (fun _ _ _ => br_f (by decide) (mm_x_st (fun b hb eb => absurd ⟨b, hb, eb⟩ h2) (fun _ => br_t rfl (mm_y_st (fun _ _ _ => br_f (by decide) (mm_y_st (fun b hb eb => absurd ⟨b, hb, eb⟩ h2) (fun _ => br_t rfl ⟨rfl, mm_rel h⟩))) (fun z => absurd h1 z))))) (fun z => absurd h1 z)
  · unfold wpX_distance wpY_distance
    dsimp only
    exact mm_x_st (fun a ha ea => absurd ⟨a, ha, ea⟩ h1) (fun _ => br_t rfl (mm_y_st (fun a ha ea => absurd ⟨a, ha, ea⟩ h1) (fun _ => br_t rfl ⟨rfl, mm_rel h⟩)))
