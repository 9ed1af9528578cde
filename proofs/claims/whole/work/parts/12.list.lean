def mm_cnt (S G T : Nat → Int32) (x y z : Int32) : Nat → Nat
  | 0 => 0
  | k + 1 => mm_cnt S G T x y z k + (if S k = x ∧ G k = y ∧ T k = z then 1 else 0)
theorem mm_cnt_p {S G T : Nat → Int32} {x y z : Int32} {k : Nat} (h : S k = x ∧ G k = y ∧ T k = z) : mm_cnt S G T x y z (k + 1) = mm_cnt S G T x y z k + 1 := by
  show mm_cnt S G T x y z k + (if S k = x ∧ G k = y ∧ T k = z then 1 else 0) = _
  rw [if_pos h]
theorem mm_cnt_n {S G T : Nat → Int32} {x y z : Int32} {k : Nat} (h : ¬ (S k = x ∧ G k = y ∧ T k = z)) : mm_cnt S G T x y z (k + 1) = mm_cnt S G T x y z k := by
  show mm_cnt S G T x y z k + (if S k = x ∧ G k = y ∧ T k = z then 1 else 0) = _
  rw [if_neg h, Nat.add_zero]
section
variable {d : Int32} {c : Nat} {L db S G N B P T R F W nF nW H C O Lf K r0 r1 r2 r3 r4 : Nat → Int32} {post : SX → Prop}
theorem mm_x_cnt_l {po : Int32 → Prop} {x y z : Int32} (hc : c ≤ 16) (hp : po (nI (mm_cnt S G T x y z c))) :
  ∀ k i : Nat, i + k = c → wX_count_6 po x y z d (nI c) L db S G N B P T R F W nF nW H C O Lf K r0 r1 r2 r3 r4 (k + 1) (nI (mm_cnt S G T x y z i)) (nI i) := by
  intro k
  induction k with
  | zero =>
    intro i hi
    have : i = c := by omega
    subst this
    exact br_t (nI_le (Nat.le_refl i) (by omega)) hp
  | succ k ih =>
    intro i hi
    refine br_f (nI_ge (by omega) (by omega)) ⟨vp_in_nI (by omega) (by decide), ?_⟩
    rw [nI_clamp (n := i) (by omega)]
    have h := ih (i + 1) (by omega)
    refine br_c (fun e => mm_w_isFor (by omega) (fun e1 e2 => br_f (by decide) (nm_r (nI_1 _) (nm_r (nI_1 i) ?_))) (fun en => br_t rfl (nm_r (nI_1 i) ?_))) (fun e => nm_r (nI_1 i) ?_)
    · rw [mm_cnt_p ⟨e1, e2, e⟩] at h; exact h
    · rw [mm_cnt_n (fun q => en ⟨q.1, q.2.1⟩)] at h; exact h
    · rw [mm_cnt_n (fun q => e q.2.2)] at h; exact h
theorem mm_y_cnt_l {po : Int32 → Prop} {x y z : Int32} (hc : c ≤ 16) (h1 : mm_st x → mm_st y → po (nI (mm_cnt S G T x y z c))) (h0 : ¬ (mm_st x ∧ mm_st y) → po (-1)) :
  ∀ k i : Nat, i + k = c → wY_number_6 po x y z d (nI c) db L S G N B T (k + 1) (nI (mm_cnt S G T x y z i)) (nI i) := by
  intro k
  induction k with
  | zero =>
    intro i hi
    have : i = c := by omega
    subst this
    exact br_t (nI_le (Nat.le_refl i) (by omega)) (mm_y_st (fun a ha ea => br_f (by decide) (mm_y_st (fun b hb eb => br_f (by decide) (h1 ⟨a, ha, ea⟩ ⟨b, hb, eb⟩)) (fun hn => br_t rfl (h0 (fun q => hn q.2))))) (fun hn => br_t rfl (h0 (fun q => hn q.1))))
  | succ k ih =>
    intro i hi
    have hin : vp_in (nI i) 16 := vp_in_nI (by omega) (by decide)
    refine br_f (nI_ge (by omega) (by omega)) ⟨hin, ?_⟩
    rw [nI_clamp (n := i) (by omega)]
    have h := ih (i + 1) (by omega)
    refine br_c (fun e => ⟨hin, br_c (fun e1 => ⟨hin, br_c (fun e2 => nm_r (nI_1 _) (nm_r (nI_1 i) ?_)) (fun e2 => nm_r (nI_1 i) ?_)⟩) (fun e1 => nm_r (nI_1 i) ?_)⟩) (fun e => nm_r (nI_1 i) ?_)
    · rw [mm_cnt_p ⟨e, e1, e2⟩] at h; exact h
    · rw [mm_cnt_n (fun q => e2 q.2.2)] at h; exact h
    · rw [mm_cnt_n (fun q => e1 q.2.1)] at h; exact h
    · rw [mm_cnt_n (fun q => e q.1)] at h; exact h
theorem mm_find_l {x y z : Int32} (hc : c ≤ 16) :
  ∀ (k i : Nat) (w : Int32), i + k = c → ∃ r, (r = -1 ∨ ∃ m, m < c ∧ r = nI m) ∧ (∀ po : Int32 → Prop, po r → wX_find_6 po x y z d (nI c) L db S G N B P T R F W nF nW H C O Lf K r0 r1 r2 r3 r4 (k + 1) w (nI i)) ∧ (∀ po : Int32 → Prop, po r → wY_find_6 po x y z d (nI c) db L S G N B T (k + 1) w (nI i)) := by
  intro k
  induction k with
  | zero =>
    intro i w hi
    have : i = c := by omega
    subst this
    exact ⟨-1, Or.inl rfl, fun po hp => br_t (nI_le (Nat.le_refl i) (by omega)) hp, fun po hp => br_t (nI_le (Nat.le_refl i) (by omega)) hp⟩
  | succ k ih =>
    intro i w hi
    have hin : vp_in (nI i) 16 := vp_in_nI (by omega) (by decide)
    have hge : ¬ nI c ≤ nI i := nI_ge (by omega) (by omega)
    have hcl : (nI i).toNatClampNeg = i := nI_clamp (by omega)
    by_cases e : T i = 0
    · obtain ⟨r, h1, h2, h3⟩ := ih (i + 1) w (by omega)
      refine ⟨r, h1, fun po hp => br_f hge ⟨hin, ?_⟩, fun po hp => br_f hge ⟨hin, ?_⟩⟩
      · rw [hcl]; exact br_t e (nm_r (nI_1 i) (h2 po hp))
      · rw [hcl]; exact br_c (fun _ => ⟨hin, br_c (fun _ => ⟨hin, br_t e (nm_r (nI_1 i) (h3 po hp))⟩) (fun _ => nm_r (nI_1 i) (h3 po hp))⟩) (fun _ => nm_r (nI_1 i) (h3 po hp))
    · by_cases e2 : S i = x ∧ G i = y
      · by_cases e3 : w = z
        · refine ⟨nI i, Or.inr ⟨i, by omega, rfl⟩, fun po hp => br_f hge ⟨hin, ?_⟩, fun po hp => br_f hge ⟨hin, ?_⟩⟩
          · rw [hcl]; exact br_f e (mm_w_isFor (by omega) (fun _ _ => br_f (by decide) (br_t e3 hp)) (fun q => absurd e2 q))
          · rw [hcl]; exact br_t e2.1 ⟨hin, br_t e2.2 ⟨hin, br_f e (br_t e3 hp)⟩⟩
        · obtain ⟨r, h1, h2, h3⟩ := ih (i + 1) (w + 1) (by omega)
          refine ⟨r, h1, fun po hp => br_f hge ⟨hin, ?_⟩, fun po hp => br_f hge ⟨hin, ?_⟩⟩
          · rw [hcl]; exact br_f e (mm_w_isFor (by omega) (fun _ _ => br_f (by decide) (br_f e3 (nm_e (nm_r (nI_1 i) (h2 po hp))))) (fun q => absurd e2 q))
          · rw [hcl]; exact br_t e2.1 ⟨hin, br_t e2.2 ⟨hin, br_f e (br_f e3 (nm_e (nm_r (nI_1 i) (h3 po hp))))⟩⟩
      · obtain ⟨r, h1, h2, h3⟩ := ih (i + 1) w (by omega)
        refine ⟨r, h1, fun po hp => br_f hge ⟨hin, ?_⟩, fun po hp => br_f hge ⟨hin, ?_⟩⟩
        · rw [hcl]; exact br_f e (mm_w_isFor (by omega) (fun q1 q2 => absurd ⟨q1, q2⟩ e2) (fun _ => br_t rfl (nm_r (nI_1 i) (h2 po hp))))
        · rw [hcl]; exact br_c (fun q1 => ⟨hin, br_c (fun q2 => absurd ⟨q1, q2⟩ e2) (fun _ => nm_r (nI_1 i) (h3 po hp))⟩) (fun _ => nm_r (nI_1 i) (h3 po hp))
theorem mm_find {x y z : Int32} (hc : c ≤ 16) : ∃ r, (r = -1 ∨ ∃ m, m < c ∧ r = nI m) ∧ (∀ po : Int32 → Prop, po r → wpX_find po (d, nI c, L, db, S, G, N, B, P, T, R, F, W, nF, nW, H, C, O, Lf, K, r0, r1, r2, r3, r4) x y z) ∧ (∀ po : Int32 → Prop, po r → wpY_find po (d, nI c, db, L, S, G, N, B, T) x y z) := by
  obtain ⟨r, h1, h2, h3⟩ := mm_find_l (d := d) (c := c) (L := L) (db := db) (S := S) (G := G) (N := N) (B := B) (P := P) (T := T) (R := R) (F := F) (W := W) (nF := nF) (nW := nW) (H := H) (C := C) (O := O) (Lf := Lf) (K := K) (r0 := r0) (r1 := r1) (r2 := r2) (r3 := r3) (r4 := r4) (x := x) (y := y) (z := z) hc c 0 0 (by omega)
  exact ⟨r, h1, fun po hp => ⟨c + 1, h2 po hp⟩, fun po hp => ⟨c + 1, h3 po hp⟩⟩
end
theorem i_vc_waiting {k : Nat} {u : SX} {v : SY} (I : i_Rel k u v) (hk : k + 4 ≤ 2048) (v1 : Int32) (v2 : Int32) : wpX_waiting (fun r => wpY_waiting (fun r' => r' = r ∧ i_Rel (k + 4) u v) v v1 v2) u v1 v2 := by
  obtain ⟨d, c, L, db, S, G, N, B, P, T, R, F, W, nF, nW, H, C, O, Lf, K, r0, r1, r2, r3, r4, rfl, rfl, h⟩ := I
  have hc := h.2.1
  unfold wpX_waiting wpY_waiting
  dsimp only
  refine mm_x_st (fun a ha ea => br_f (by decide) (mm_x_st (fun b hb eb => br_f (by decide) ⟨c + 1, mm_x_cnt_l hc ⟨c + 1, mm_y_cnt_l hc (fun _ _ => ⟨rfl, mm_rel h⟩) (fun z => absurd ⟨⟨a, ha, ea⟩, ⟨b, hb, eb⟩⟩ z) c 0 (by omega)⟩ c 0 (by omega)⟩) (fun hn => br_t rfl ⟨c + 1, mm_y_cnt_l hc (fun _ z => absurd z hn) (fun _ => ⟨rfl, mm_rel h⟩) c 0 (by omega)⟩))) (fun hn => br_t rfl ⟨c + 1, mm_y_cnt_l hc (fun z _ => absurd z hn) (fun _ => ⟨rfl, mm_rel h⟩) c 0 (by omega)⟩)
theorem i_vc_arrived {k : Nat} {u : SX} {v : SY} (I : i_Rel k u v) (hk : k + 4 ≤ 2048) (v1 : Int32) (v2 : Int32) : wpX_arrived (fun r => wpY_arrived (fun r' => r' = r ∧ i_Rel (k + 4) u v) v v1 v2) u v1 v2 := by
  obtain ⟨d, c, L, db, S, G, N, B, P, T, R, F, W, nF, nW, H, C, O, Lf, K, r0, r1, r2, r3, r4, rfl, rfl, h⟩ := I
  have hc := h.2.1
  unfold wpX_arrived wpY_arrived
  dsimp only
  refine mm_x_st (fun a ha ea => br_f (by decide) (mm_x_st (fun b hb eb => br_f (by decide) ⟨c + 1, mm_x_cnt_l hc ⟨c + 1, mm_y_cnt_l hc (fun _ _ => ⟨rfl, mm_rel h⟩) (fun z => absurd ⟨⟨a, ha, ea⟩, ⟨b, hb, eb⟩⟩ z) c 0 (by omega)⟩ c 0 (by omega)⟩) (fun hn => br_t rfl ⟨c + 1, mm_y_cnt_l hc (fun _ z => absurd z hn) (fun _ => ⟨rfl, mm_rel h⟩) c 0 (by omega)⟩))) (fun hn => br_t rfl ⟨c + 1, mm_y_cnt_l hc (fun z _ => absurd z hn) (fun _ => ⟨rfl, mm_rel h⟩) c 0 (by omega)⟩)
theorem mm_m1lt : ¬ (0 : Int32) ≤ -1 := by decide
theorem i_vc_length {k : Nat} {u : SX} {v : SY} (I : i_Rel k u v) (hk : k + 4 ≤ 2048) (v1 : Int32) (v2 : Int32) (v3 : Int32) : wpX_length (fun r => wpY_length (fun r' => r' = r ∧ i_Rel (k + 4) u v) v v1 v2 v3) u v1 v2 v3 := by
  obtain ⟨d, c, L, db, S, G, N, B, P, T, R, F, W, nF, nW, H, C, O, Lf, K, r0, r1, r2, r3, r4, rfl, rfl, h⟩ := I
  have hc := h.2.1
  unfold wpX_length wpY_length
  dsimp only
  obtain ⟨r, h1, h2, h3⟩ := mm_find (d := nI d) (c := c) (L := L) (db := db) (S := S) (G := G) (N := N) (B := B) (P := P) (T := T) (R := R) (F := F) (W := W) (nF := nF) (nW := nW) (H := H) (C := C) (O := O) (Lf := Lf) (K := K) (r0 := r0) (r1 := r1) (r2 := r2) (r3 := r3) (r4 := r4) (x := v1) (y := v2) (z := v3) hc
  refine h2 _ ?_
  rcases h1 with rfl | ⟨m, hm, rfl⟩
  · exact br_t rfl (h3 _ (br_f mm_m1lt ⟨rfl, mm_rel h⟩))
  · have hin : vp_in (nI m) 16 := vp_in_nI (by omega) (by decide)
    exact br_f (mm_nm1 (by omega)) ⟨hin, h3 _ (br_t (nI_pos' (by omega)) ⟨hin, rfl, mm_rel h⟩)⟩
theorem i_vc_byteAt {k : Nat} {u : SX} {v : SY} (I : i_Rel k u v) (hk : k + 4 ≤ 2048) (v1 : Int32) (v2 : Int32) (v3 : Int32) : wpX_byteAt (fun r => wpY_byteAt (fun r' => r' = r ∧ i_Rel (k + 4) u v) v v1 v2 v3) u v1 v2 v3 := by
  obtain ⟨d, c, L, db, S, G, N, B, P, T, R, F, W, nF, nW, H, C, O, Lf, K, r0, r1, r2, r3, r4, rfl, rfl, h⟩ := I
  have hc := h.2.1
  unfold wpX_byteAt wpY_byteAt
  dsimp only
  rcases pk_ix v1 (n := 64) (by decide) with h0 | h0 | ⟨j, hj, rfl⟩
  · exact br_t h0 (br_t h0 (br_t mm_neg ⟨rfl, mm_rel h⟩))
  · have hn : ¬ v1 < 0 := fun z => absurd (Int32.lt_of_le_of_lt h0 z) (by decide)
    have hn2 : ¬ v1 ≤ 63 := fun z => absurd (Int32.le_trans h0 z) (by decide)
    exact br_f hn (br_f (Int32.not_lt.mpr h0) (br_f hn (br_f hn2 (br_t mm_neg ⟨rfl, mm_rel h⟩))))
  · have hn : ¬ nI j < 0 := nI_pos (by omega)
    have e1 : nI j / 8 = nI (j / 8) := by rw [mm_8, pk_div (by omega) (by omega) (by omega)]
    have e2 : nI j - nI j / 8 * 8 = nI (j % 8) := by rw [mm_8, pk_rem (by omega) (by omega) (by omega)]
    rw [e2, e1]
    obtain ⟨r, h1, h2, h3⟩ := mm_find (d := nI d) (c := c) (L := L) (db := db) (S := S) (G := G) (N := N) (B := B) (P := P) (T := T) (R := R) (F := F) (W := W) (nF := nF) (nW := nW) (H := H) (C := C) (O := O) (Lf := Lf) (K := K) (r0 := r0) (r1 := r1) (r2 := r2) (r3 := r3) (r4 := r4) (x := nI (j % 8)) (y := nI (j / 8)) (z := v2) hc
    refine br_f hn (br_t (nI_lt (b := 64) hj (by decide)) ⟨by decide, by decide, h2 _ ?_⟩)
    have hY : ∀ rr, wY_byteAt_27 (fun r' => r' = rr ∧ i_Rel (k + 4) (nI d, nI c, L, db, S, G, N, B, P, T, R, F, W, nF, nW, H, C, O, Lf, K, r0, r1, r2, r3, r4) (nI d, nI c, db, L, S, G, N, B, T)) v3 r (nI d) (nI c) db L S G N B T → ((nI j < 0 → wY_byteAt_10 (fun r' => r' = rr ∧ i_Rel (k + 4) (nI d, nI c, L, db, S, G, N, B, P, T, R, F, W, nF, nW, H, C, O, Lf, K, r0, r1, r2, r3, r4) (nI d, nI c, db, L, S, G, N, B, T)) v3 (nI d) (nI c) db L S G N B T) ∧ (¬ nI j < 0 → ((nI j ≤ 63 → (¬ (8 : Int32) = 0 ∧ (¬ (8 : Int32) = 0 ∧ (wpY_find (fun r_10 => (wY_byteAt_27 (fun r' => r' = rr ∧ i_Rel (k + 4) (nI d, nI c, L, db, S, G, N, B, P, T, R, F, W, nF, nW, H, C, O, Lf, K, r0, r1, r2, r3, r4) (nI d, nI c, db, L, S, G, N, B, T)) v3 r_10 (nI d) (nI c) db L S G N B T)) (nI d, nI c, db, L, S, G, N, B, T) (nI (j % 8)) (nI (j / 8)) v2)))) ∧ (¬ nI j ≤ 63 → wY_byteAt_10 (fun r' => r' = rr ∧ i_Rel (k + 4) (nI d, nI c, L, db, S, G, N, B, P, T, R, F, W, nF, nW, H, C, O, Lf, K, r0, r1, r2, r3, r4) (nI d, nI c, db, L, S, G, N, B, T)) v3 (nI d) (nI c) db L S G N B T)))) := by
      intro rr q
      exact br_f hn (br_t (nI_le (b := 63) (by omega) (by decide)) ⟨by decide, by decide, h3 _ q⟩)
    rcases h1 with rfl | ⟨m, hm, rfl⟩
    · exact br_t rfl (hY _ (br_t mm_neg ⟨rfl, mm_rel h⟩))
    · have hin : vp_in (nI m) 16 := vp_in_nI (by omega) (by decide)
      have hmn : ¬ nI m < 0 := nI_pos (by omega)
      refine br_f (mm_nm1 (by omega)) (br_c (fun q0 => hY _ (br_f hmn (br_t q0 ⟨rfl, mm_rel h⟩))) (fun q0 => ⟨hin, ?_⟩))
      obtain ⟨l, hl, rfl⟩ := nI_of q0
      obtain ⟨⟨-, -, -, -, -, eN, hN⟩, -⟩ := h.2.2.2.1 m hm
      rw [nI_clamp (n := m) (by omega)]
      refine br_c (fun q1 => ?_) (fun q1 => hY _ (br_f hmn (br_f q0 ⟨hin, br_f (by rw [nI_clamp (n := m) (by omega)]; exact q1) ⟨rfl, mm_rel h⟩⟩)))
      have hl9 : l < 8 := by
        have q2 := q1
        rw [eN, nI_ltI hl (by omega)] at q2
        omega
      refine ⟨pk_in (m * 8 + l) 128 (by omega) (mm_i8 m l), hY _ (br_f hmn (br_f q0 ⟨hin, br_t (by rw [nI_clamp (n := m) (by omega)]; exact q1) ⟨pk_in (m * 8 + l) 128 (by omega) (mm_8i m l), ?_, mm_rel h⟩⟩))⟩
      rw [mm_8i, mm_i8]
