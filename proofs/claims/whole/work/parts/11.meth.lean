section
variable {d c : Nat} {L db S G N B P T R F W nF nW H C O Lf K r0 r1 r2 r3 r4 : Nat → Int32} {post : SX → Prop}
theorem mm_x_dst {po : Int32 → SX → Prop} {x1 x2 x3 : Int32} (h0 : po 1 (nI d, nI c, L, db, S, G, N, B, P, T, R, F, W, nF, nW, H, C, O, Lf, K, r0, r1, r2, r3, r4)) (h1 : ∀ i, i < 16 → po 1 (nI d, nI c, L, db, S, G, N, B, P, T, R, F, W, nF, nW, H, C, upd O i x1, upd Lf i x2, upd K i x3, r0, r1, r2, r3, r4)) :
  ∀ k i : Nat, i + k = 16 → wX_disturb_31 po x1 x2 x3 (nI d) (nI c) L db S G N B P T R F W nF nW H C O Lf K r0 r1 r2 r3 r4 (k + 1) (nI i) := by
  intro k
  induction k with
  | zero =>
    intro i hi
    have : i = 16 := by omega
    subst this
    exact br_t (by decide) h0
  | succ k ih =>
    intro i hi
    have hin : vp_in (nI i) 16 := vp_in_nI (by omega) (by decide)
    refine br_f (nI_ge (b := 16) (by omega) (by decide)) ⟨hin, ?_⟩
    rw [nI_clamp (n := i) (by omega)]
    exact br_c (fun _ => ⟨hin, nm_e ⟨hin, nm_e ⟨hin, nm_e (h1 i (by omega))⟩⟩⟩) (fun _ => nm_r (nI_1 i) (ih (i + 1) (by omega)))
end
theorem mm_in20 {x : Int32} {n : Nat} (hn : n < 2 ^ 31) (h0 : ¬ x < 0) (h1 : ¬ nI n < x) : ∃ l, l ≤ n ∧ x = nI l := by
  obtain ⟨j, hj, rfl⟩ := nI_of h0
  rw [nI_ltI hn hj] at h1
  exact ⟨j, by omega, rfl⟩
theorem i_vc_disturb {k : Nat} {u : SX} {v : SY} (I : i_Rel k u v) (hk : k + 4 ≤ 2048) (v1 : Int32) (v2 : Int32) (v3 : Int32) : wpX_disturb (fun r u' => wpY_disturb (fun r' => r' = r ∧ i_Rel (k + 4) u' v) v v1 v2 v3) u v1 v2 v3 := by
  obtain ⟨d, c, L, db, S, G, N, B, P, T, R, F, W, nF, nW, H, C, O, Lf, K, r0, r1, r2, r3, r4, rfl, rfl, h⟩ := I
  have ⟨hd, hc, hL, hm, hC, hr, hF, hO, hK⟩ := h
  unfold wpX_disturb wpY_disturb
  dsimp only
  refine mm_x_st (fun a ha ea => br_f (by decide) ?_) (fun hn => br_t rfl (mm_y_st (fun a ha ea => absurd ⟨a, ha, ea⟩ hn) (fun _ => br_t rfl ⟨rfl, mm_rel h⟩)))
  have hs : mm_st v1 := ⟨a, ha, ea⟩
  refine br_c (fun h0 => mm_y_st (fun _ _ _ => br_f (by decide) (br_t h0 ⟨rfl, mm_rel h⟩)) (fun z => absurd hs z)) (fun h0 => br_c (fun h1 => mm_y_st (fun _ _ _ => br_f (by decide) (br_f h0 (br_t h1 ⟨rfl, mm_rel h⟩))) (fun z => absurd hs z)) (fun h1 => br_c (fun h2 => mm_y_st (fun _ _ _ => br_f (by decide) (br_f h0 (br_f h1 (br_t h2 ⟨rfl, mm_rel h⟩)))) (fun z => absurd hs z)) (fun h2 => br_c (fun h3 => ?_) (fun h3 => mm_y_st (fun _ _ _ => br_f (by decide) (br_f h0 (br_f h1 (br_f h2 (br_t (Int32.not_le.mp h3) ⟨rfl, mm_rel h⟩))))) (fun z => absurd hs z)))))
  have h3' : ¬ (2 : Int32) < v3 := Int32.not_lt.mpr h3
  refine ⟨17, mm_x_dst ?_ (fun i hi => ?_) 16 0 rfl⟩
  · exact mm_y_st (fun _ _ _ => br_f (by decide) (br_f h0 (br_f h1 (br_f h2 (br_f h3' ⟨rfl, mm_rel h⟩))))) (fun z => absurd hs z)
  · obtain ⟨l, hl, el⟩ := mm_in20 (n := 20) (by decide) h0 h1
    obtain ⟨q, hq, eq⟩ := mm_in20 (n := 2) (by decide) h2 h3'
    refine mm_y_st (fun _ _ _ => br_f (by decide) (br_f h0 (br_f h1 (br_f h2 (br_f h3' ⟨rfl, mm_rel ⟨hd, hc, hL, hm, hC, hr, hF, fun j hj => ?_, fun j hj => ?_⟩⟩))))) (fun z => absurd hs z)
    · by_cases e : j = i
      · subst e
        refine Or.inr ⟨a, l, ha, hl, ?_, ?_⟩
        · rw [pk_us]; exact ea
        · rw [pk_us]; exact el
      · unfold mm_or0
        rw [pk_un e, pk_un e]
        exact hO j hj
    · by_cases e : j = i
      · subst e
        rw [pk_us]
        exact ⟨q, hq, eq⟩
      · rw [pk_un e]
        exact hK j hj
section
variable {d : Int32} {c : Nat} {L db S G N B P T R F W nF nW H C O Lf K r0 r1 r2 r3 r4 : Nat → Int32} {post : SX → Prop}
theorem mm_x_fw_l {a : Nat} (ha : a < 8) (F0 W0 : Nat → Int32)
  (hp : ∀ F W : Nat → Int32, (∀ j, ¬ (a * 8 ≤ j ∧ j < a * 8 + 8) → F j = F0 j ∧ W j = W0 j) → (∀ b, b < 8 → F (a * 8 + b) = nI (if a = b then 0 else 8) ∧ W (a * 8 + b) = -1) → post (d, nI c, L, db, S, G, N, B, P, T, R, F, W, nF, nW, H, C, O, Lf, K, r0, r1, r2, r3, r4)) :
  ∀ (k i : Nat) (F W : Nat → Int32), i + k = 8 → (∀ j, ¬ (a * 8 ≤ j ∧ j < a * 8 + i) → F j = F0 j ∧ W j = W0 j) → (∀ b, b < i → F (a * 8 + b) = nI (if a = b then 0 else 8) ∧ W (a * 8 + b) = -1) → wX_forgetWays_2 post (nI a) d (nI c) (k + 1) (nI i) L db S G N B P T R F W nF nW H C O Lf K r0 r1 r2 r3 r4 := by
  intro k
  induction k with
  | zero =>
    intro i F W hi h1 h2
    have : i = 8 := by omega
    subst this
    exact br_t (by decide) (hp F W h1 h2)
  | succ k ih =>
    intro i F W hi h1 h2
    have hin : vp_in (nI a * 8 + nI i) 64 := pk_in (a * 8 + i) 64 (by omega) (mm_i8 a i)
    refine br_f (nI_ge (b := 8) (by omega) (by decide)) (pk_eq a i (fun e => ⟨hin, nm_e ⟨hin, nm_e (nm_r (nI_1 i) ?_)⟩⟩) (fun e => ⟨hin, nm_e ⟨hin, nm_e (nm_r (nI_1 i) ?_)⟩⟩))
    · rw [pk_cl (a * 8 + i) (mm_i8 a i)]
      refine ih (i + 1) _ _ (by omega) (fun j hj => ?_) (fun b hb => ?_)
      · rw [pk_un (by omega), pk_un (by omega)]
        exact h1 j (by omega)
      · by_cases eb : b = i
        · subst eb
          rw [pk_us, pk_us, if_pos e]
          exact ⟨rfl, rfl⟩
        · rw [pk_un (by omega), pk_un (by omega)]
          exact h2 b (by omega)
    · rw [pk_cl (a * 8 + i) (mm_i8 a i)]
      refine ih (i + 1) _ _ (by omega) (fun j hj => ?_) (fun b hb => ?_)
      · rw [pk_un (by omega), pk_un (by omega)]
        exact h1 j (by omega)
      · by_cases eb : b = i
        · subst eb
          rw [pk_us, pk_us, if_neg e]
          exact ⟨rfl, rfl⟩
        · rw [pk_un (by omega), pk_un (by omega)]
          exact h2 b (by omega)
theorem mm_x_fw {a : Nat} (ha : a < 8)
  (hp : ∀ F' W' : Nat → Int32, (∀ j, ¬ (a * 8 ≤ j ∧ j < a * 8 + 8) → F' j = F j ∧ W' j = W j) → (∀ b, b < 8 → F' (a * 8 + b) = nI (if a = b then 0 else 8) ∧ W' (a * 8 + b) = -1) → post (d, nI c, L, db, S, G, N, B, P, T, R, F', W', nF, nW, H, C, O, Lf, K, r0, r1, r2, r3, r4)) : wpX_forgetWays post (d, nI c, L, db, S, G, N, B, P, T, R, F, W, nF, nW, H, C, O, Lf, K, r0, r1, r2, r3, r4) (nI a) :=
  ⟨9, mm_x_fw_l ha F W hp 8 0 F W rfl (fun _ _ => ⟨rfl, rfl⟩) (fun b hb => absurd hb (by omega))⟩
theorem mm_NF1 {a b : Nat} {x y : Int32} (h1 : x = nI (if a = b then 0 else 8)) (h2 : y = -1) : x = nI (mm_n x) ∧ (a = b → mm_n x = 0) ∧ (a ≠ b → 1 ≤ mm_n x ∧ mm_n x ≤ 8) ∧ (y = -1 ∨ ∃ e, e < 8 ∧ y = nI e) := by
  rw [h1, h2]
  by_cases e : a = b
  · rw [if_pos e, mm_nI (by omega)]
    exact ⟨rfl, fun _ => rfl, fun z => absurd e z, Or.inl rfl⟩
  · rw [if_neg e, mm_nI (by omega)]
    exact ⟨rfl, fun z => absurd z e, fun _ => ⟨by omega, by omega⟩, Or.inl rfl⟩
theorem mm_x_fp_l {a : Nat} (hc : c ≤ 16) (ha : a < 8)
  (hp : ∀ P C : Nat → Int32, (∀ h, h < 128 → C h = 0) → (∀ m, m < c → T m = 0 → P m = 0) → post (d, nI c, L, db, S, G, N, B, P, T, R, F, W, nF, nW, H, C, O, Lf, K, r0, r1, r2, r3, r4)) :
  ∀ (k i : Nat) (P C : Nat → Int32), i + k = c → (∀ h, h < 128 → C h = 0) → (∀ m, m < c → T m = 0 → P m = 0) → wX_forgetPieces_2 post (nI a) d (nI c) (k + 1) (nI i) L db S G N B P T R F W nF nW H C O Lf K r0 r1 r2 r3 r4 := by
  intro k
  induction k with
  | zero =>
    intro i P C hi h1 h2
    have : i = c := by omega
    subst this
    exact br_t (nI_le (Nat.le_refl i) (by omega)) (hp P C h1 h2)
  | succ k ih =>
    intro i P C hi h1 h2
    have hin : vp_in (nI i) 16 := vp_in_nI (by omega) (by decide)
    refine br_f (nI_ge (by omega) (by omega)) ⟨pk_in (a * 16 + i) 128 (by omega) (mm_i16 a i), nm_e ⟨hin, ?_⟩⟩
    rw [pk_cl (a * 16 + i) (mm_i16 a i), nI_clamp (n := i) (by omega)]
    have hC' : ∀ h, h < 128 → upd C (a * 16 + i) 0 h = 0 := by
      intro h hh
      by_cases e : h = a * 16 + i
      · rw [e]; exact pk_us
      · rw [pk_un e]; exact h1 h hh
    refine br_c (fun e => ⟨hin, br_c (fun e2 => ⟨hin, nm_e (nm_r (nI_1 i) (ih (i + 1) _ _ (by omega) hC' (fun m hm hT => ?_)))⟩) (fun e2 => nm_r (nI_1 i) (ih (i + 1) _ _ (by omega) hC' h2))⟩) (fun e => nm_r (nI_1 i) (ih (i + 1) _ _ (by omega) hC' h2))
    by_cases em : m = i
    · rw [em]; exact pk_us
    · rw [pk_un em]; exact h2 m hm hT
end
theorem mm_nb1 : narrow .boolean (.int 1) = .int 1 := by decide +kernel
theorem mm_nb0 : narrow .boolean (.int 0) = .int 0 := by decide +kernel
theorem i_vc_forget {k : Nat} {u : SX} {v : SY} (I : i_Rel k u v) (hk : k + 4 ≤ 2048) (v1 : Int32) : wpX_forget (fun r u' => wpY_forget (fun r' => r' = r ∧ i_Rel (k + 4) u' v) v v1) u v1 := by
  obtain ⟨d, c, L, db, S, G, N, B, P, T, R, F, W, nF, nW, H, C, O, Lf, K, r0, r1, r2, r3, r4, rfl, rfl, h⟩ := I
  have ⟨hd, hc, hL, hm, hC, hr, hF, hO, hK⟩ := h
  unfold wpX_forget wpY_forget
  dsimp only
  refine mm_x_st (fun a ha ea => br_f (by decide) ?_) (fun hn => br_t rfl (mm_y_st (fun a ha ea => absurd ⟨a, ha, ea⟩ hn) (fun _ => ⟨mm_nb0, rfl, mm_rel h⟩)))
  have hs : mm_st v1 := ⟨a, ha, ea⟩
  rw [ea]
  have hNF : ∀ F' W' : Nat → Int32, (∀ j, ¬ (a * 8 ≤ j ∧ j < a * 8 + 8) → F' j = F j ∧ W' j = W j) → (∀ b, b < 8 → F' (a * 8 + b) = nI (if a = b then 0 else 8) ∧ W' (a * 8 + b) = -1) → mm_NF F' W' := by
    intro F' W' f1 f2 x b hx hb
    by_cases e : x = a
    · subst e
      exact mm_NF1 (f2 b hb).1 (f2 b hb).2
    · have := f1 (x * 8 + b) (by omega)
      rw [this.1, this.2]
      exact hF x b hx hb
  have hms : ∀ P' : Nat → Int32, (∀ m, m < c → T m = 0 → P' m = 0) → ∀ m, m < c → mm_m1 (S m) (G m) (N m) (P' m) (T m) (R m) := by
    intro P' g2 m hm1
    have := hm m hm1
    exact ⟨this.1, this.2.1, fun hT => ⟨g2 m hm1 hT, (this.2.2 hT).2⟩⟩
  exact mm_x_fw ha (fun F' W' f1 f2 => ⟨c + 1, mm_x_fp_l hc ha (fun P' C' g1 g2 => mm_y_st (fun _ _ _ => ⟨mm_nb1, rfl, mm_rel ⟨hd, hc, hL, hms P' g2, g1, hr, hNF F' W' f1 f2, hO, hK⟩⟩) (fun z => absurd ⟨a, ha, rfl⟩ z)) c 0 P C (by omega) hC (fun m hm1 hT => ((hm m hm1).2.2 hT).1)⟩)
section
variable {d : Int32} {c : Nat} {L db S G N B P T R F W nF nW H C O Lf K r0 r1 r2 r3 r4 : Nat → Int32} {post : SX → Prop}
theorem mm_x_i212 (hp : ∀ O : Nat → Int32, (∀ i, i < 16 → O i = -1) → post (d, nI c, L, db, S, G, N, B, P, T, R, F, W, nF, nW, H, C, O, Lf, K, r0, r1, r2, r3, r4)) : ∀ (k i : Nat) (O : Nat → Int32), i + k = 16 → (∀ j, j < i → O j = -1) → wX_init_212 post d (nI c) (k + 1) (nI i) L db S G N B P T R F W nF nW H C O Lf K r0 r1 r2 r3 r4 := by
  intro k
  induction k with
  | zero =>
    intro i O hi h1
    have : i = 16 := by omega
    subst this
    exact br_t (by decide) (hp O h1)
  | succ k ih =>
    intro i O hi h1
    refine br_f (nI_ge (b := 16) (by omega) (by decide)) ⟨vp_in_nI (by omega) (by decide), nm_e (nm_r (nI_1 i) ?_)⟩
    rw [nI_clamp (n := i) (by omega)]
    refine ih (i + 1) _ (by omega) (fun j hj => ?_)
    by_cases e : j = i
    · rw [e]; exact pk_us
    · rw [pk_un e]; exact h1 j (by omega)
theorem mm_x_i193 (hp : ∀ F W O : Nat → Int32, (∀ a b, a < 8 → b < 8 → F (a * 8 + b) = nI (if a = b then 0 else 8) ∧ W (a * 8 + b) = -1) → (∀ i, i < 16 → O i = -1) → post (d, nI c, L, db, S, G, N, B, P, T, R, F, W, nF, nW, H, C, O, Lf, K, r0, r1, r2, r3, r4)) :
  ∀ (k i : Nat) (F W : Nat → Int32), i + k = 8 → (∀ a b, a < i → b < 8 → F (a * 8 + b) = nI (if a = b then 0 else 8) ∧ W (a * 8 + b) = -1) → wX_init_193 post (k + 1) (nI i) d (nI c) L db S G N B P T R F W nF nW H C O Lf K r0 r1 r2 r3 r4 := by
  intro k
  induction k with
  | zero =>
    intro i F W hi h1
    have : i = 8 := by omega
    subst this
    exact br_t (by decide) ⟨17, mm_x_i212 (fun O z => hp F W O h1 z) 16 0 O rfl (fun j hj => absurd hj (by omega))⟩
  | succ k ih =>
    intro i F W hi h1
    refine br_f (nI_ge (b := 8) (by omega) (by decide)) (mm_x_fw (by omega) (fun F' W' f1 f2 => nm_r (nI_1 i) (ih (i + 1) F' W' (by omega) (fun a b ha hb => ?_))))
    by_cases e : a = i
    · subst e; exact f2 b hb
    · have := f1 (a * 8 + b) (by omega)
      rw [this.1, this.2]
      exact h1 a b (by omega) hb
end
theorem i_vc0 : wpX_init (fun u => wpY_init (fun v => i_Rel 0 u v)) := by
  refine ⟨9, mm_x_i193 (d := nI 0) (c := 0) (post := fun u => wpY_init (fun v => i_Rel 0 u v)) ?_ 8 0 (fun _ => 0) (fun _ => 0) rfl (fun a b ha => absurd ha (by omega))⟩
  intro F W O h1 h2
  refine mm_rel (k := 0) (d := 0) (c := 0) ⟨by omega, by omega, fun a ha b hb => ?_, fun m hm => absurd hm (by omega), fun _ _ => rfl, fun _ _ => rfl, fun a b ha hb => mm_NF1 (h1 a b ha hb).1 (h1 a b ha hb).2, fun i hi => Or.inl (h2 i hi), fun i hi => ⟨0, by omega, rfl⟩⟩
  rw [b_0] at hb
  cases hb
