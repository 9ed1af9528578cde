section
variable {d : Int32} {c : Nat} {L db S G N B P T R F W nF nW H C O Lf K r0 r1 r2 r3 r4 : Nat → Int32}
theorem mm_cth_up {T : Nat → Int32} {i : Nat} {x : Int32} : mm_cth (upd T i x) i = mm_cth T i := mm_cth_cg i (fun j hj => pk_un (by omega))
theorem mm_cth_0 {T : Nat → Int32} {i : Nat} (h : T i = 0) : mm_cth T (i + 1) = mm_cth T i := by
  show mm_cth T i + (if T i = 0 then 0 else 1) = _
  rw [if_pos h, Nat.add_zero]
theorem mm_cth_1 {T : Nat → Int32} {i : Nat} (h : ¬ T i = 0) : mm_cth T (i + 1) = mm_cth T i + 1 := by
  show mm_cth T i + (if T i = 0 then 0 else 1) = _
  rw [if_neg h]
/-- what the reference's settle makes of here -/
theorem mm_y_set_l {po : Int32 → SY → Prop} (hL : mm_LK L) (hc : c ≤ 16) (hH : mm_HD c S G N) (T0 : Nat → Int32)
  (hp : ∀ (n : Nat) (T : Nat → Int32), (∀ m, c ≤ m → T m = T0 m) → (∀ m, m < c → (T0 m = 0 → mm_cn L (mm_n (S m)) (mm_n (G m)) → T m = 1) ∧ (¬ (T0 m = 0 ∧ mm_cn L (mm_n (S m)) (mm_n (G m))) → T m = T0 m)) → n + mm_cth T0 c = mm_cth T c → po (nI n) (d, nI c, db, L, S, G, N, B, T)) :
  ∀ (k i n : Nat) (T : Nat → Int32), i + k = c → (∀ m, i ≤ m → T m = T0 m) → (∀ m, m < i → (T0 m = 0 → mm_cn L (mm_n (S m)) (mm_n (G m)) → T m = 1) ∧ (¬ (T0 m = 0 ∧ mm_cn L (mm_n (S m)) (mm_n (G m))) → T m = T0 m)) → n + mm_cth T0 i = mm_cth T i → wY_settle_4 po d (nI c) (k + 1) (nI n) (nI i) db L S G N B T := by
  intro k
  induction k with
  | zero =>
    intro i n T hi h1 h2 h3
    have : i = c := by omega
    subst this
    exact br_t (nI_le (Nat.le_refl i) (by omega)) (hp n T h1 h2 h3)
  | succ k ih =>
    intro i n T hi h1 h2 h3
    have hin : vp_in (nI i) 16 := vp_in_nI (by omega) (by decide)
    have e0 := h1 i (Nat.le_refl i)
    refine br_f (nI_ge (by omega) (by omega)) (mm_y_goes hL hc hH (by omega) (fun e hcn => br_f (by decide) ⟨hin, nm_e (nm_r (nI_1 n) (nm_r (nI_1 i) ?_))⟩) (fun hn => br_t rfl (nm_r (nI_1 i) (ih (i + 1) n T (by omega) (fun m hm => h1 m (by omega)) (fun m hm => ?_) ?_))))
    · rw [nI_clamp (n := i) (by omega), mm_bl]
      refine ih (i + 1) (n + 1) _ (by omega) (fun m hm => ?_) (fun m hm => ?_) ?_
      · rw [pk_un (by omega)]; exact h1 m (by omega)
      · by_cases em : m = i
        · subst em
          rw [pk_us]
          refine ⟨fun _ _ => rfl, fun z => absurd ⟨?_, hcn⟩ z⟩
          rw [← e0]; exact e
        · rw [pk_un em]; exact h2 m (by omega)
      · rw [mm_cth_0 (T := T0) (by rw [← e0]; exact e), mm_cth_1 (T := upd T i 1) (by rw [pk_us]; decide), mm_cth_up]
        omega
    · by_cases em : m = i
      · subst em
        rw [e0] at hn
        exact ⟨fun z1 z2 => absurd ⟨z1, z2⟩ hn, fun _ => e0⟩
      · exact h2 m (by omega)
    · by_cases ez : T0 i = 0
      · rw [mm_cth_0 ez, mm_cth_0 (T := T) (by rw [e0]; exact ez)]; exact h3
      · rw [mm_cth_1 ez, mm_cth_1 (T := T) (by rw [e0]; exact ez)]; omega
end
theorem i_vc_settle {k : Nat} {u : SX} {v : SY} (I : i_Rel k u v) (hk : k + 4 ≤ 2048) : wpX_settle (fun r u' => wpY_settle (fun r' v' => r' = r ∧ i_Rel (k + 4) u' v') v) u := by
  obtain ⟨d, c, L, db, S, G, N, B, P, T, R, F, W, nF, nW, H, C, O, Lf, K, r0, r1, r2, r3, r4, rfl, rfl, h⟩ := I
  have ⟨hd, hc, hL, hm, hC, hr, hF, hO, hK⟩ := h
  have hH := mm_hd hm
  have h0 : mm_SI c 0 L S G N T P T R F W C O Lf r0 r1 r2 r3 := by
    refine ⟨⟨fun m hm1 => ⟨(hm m hm1).2.1, id, Or.inl⟩, fun _ _ => rfl⟩, ⟨fun a m p ha hm1 hb => ?_, fun m hm1 hT p hb => ?_, fun m hm1 => ?_⟩, fun i hi => ?_, fun i hi => ⟨0, by omega, hr i hi, Or.inl rfl⟩, hF, fun z => absurd z (by omega), fun z => absurd z (by omega), fun z => absurd z (by omega)⟩
    · rw [hC (a * 16 + m) (by omega), b_0] at hb
      cases hb
    · rw [((hm m hm1).2.2 hT).1, b_0] at hb
      cases hb
    · rcases (hm m hm1).2.1 with z | z
      · exact Or.inl ((hm m hm1).2.2 z).2
      · exact Or.inr z
    · rcases hO i hi with z | ⟨s, l, z1, z2, z3, z4⟩
      · exact Or.inl z
      · exact Or.inr ⟨s, l, z1, z2, z3, z4, fun _ _ => z2⟩
  unfold wpX_settle
  dsimp only
  refine mm_w_cth hc ⟨65, mm_w_rounds (T0 := T) hL hc hH hK ?_ 64 0 P T R F W nF nW H C O Lf r0 r1 r2 r3 r4 rfl h0⟩
  intro P' T' R' F' W' nF' nW' H' C' O' Lf' q0 q1 q2 q3 q4 hS
  obtain ⟨hTI, hM, hO', hT', hF', -, -, hLV⟩ := hS
  refine ⟨c + 1, mm_y_set_l hL hc hH T ?_ c 0 0 T (by omega) (fun _ _ => rfl) (fun m hm1 => absurd hm1 (by omega)) (by
    show 0 + 0 = 0
    rfl)⟩
  intro n T2 y1 y2 y3
  have hcnT : ∀ m, m < c → mm_cn L (mm_n (S m)) (mm_n (G m)) → T' m = 1 := by
    intro m hm1 hcn
    rcases hLV (by omega) m hm1 hcn with z | z
    · exact z
    · omega
  have hTT : T2 = T' := by
    funext m
    rcases Nat.lt_or_ge m c with z | z
    · by_cases e : T m = 0 ∧ mm_cn L (mm_n (S m)) (mm_n (G m))
      · rw [(y2 m z).1 e.1 e.2, hcnT m z e.2]
      · rw [(y2 m z).2 e]
        rcases (hm m z).2.1 with e1 | e1
        · rw [e1]
          rcases (hTI.1 m z).1 with e2 | e2
          · exact e2.symm
          · rcases (hTI.1 m z).2.2 e2 with e3 | e3
            · rw [e1] at e3; cases e3
            · exact absurd ⟨e1, e3⟩ e
        · rw [e1, (hTI.1 m z).2.1 e1]
    · rw [y1 m z, hTI.2 m z]
  subst hTT
  refine ⟨?_, mm_rel ⟨hd, hc, hL, fun m hm1 => ⟨(hm m hm1).1, (hTI.1 m hm1).1, fun z => ⟨?_, ?_⟩⟩, fun q hq => ?_, fun i hi => ?_, hF', fun i hi => ?_, hK⟩⟩
  · have e : nI (mm_cth T2 c) - nI (mm_cth T c) = nI (mm_cth T2 c - mm_cth T c) := pk_sub (by omega)
    rw [e]
    exact congrArg nI (by omega)
  · apply mm_z
    intro p
    apply Bool.eq_false_iff.mpr
    intro hb
    have := hcnT m hm1 (hM.2.1 m hm1 z p hb).2
    rw [z] at this
    cases this
  · rcases hM.2.2 m hm1 with y | y
    · exact y
    · rw [z] at y; cases y
  · apply mm_z
    intro p
    apply Bool.eq_false_iff.mpr
    intro hb
    have eq : q = q / 16 * 16 + q % 16 := by omega
    rw [eq] at hb
    obtain ⟨z1, z2, z3, z4, z5⟩ := hM.1 (q / 16) (q % 16) p (by omega) (by omega) hb
    rcases z3 with ⟨a1, a2, a3⟩ | ⟨a1, a2, a3⟩
    · exact a3 (z4 (by omega) a1)
    · exact a2 (z5 (by omega) a1)
  · obtain ⟨r, z1, z2, z3⟩ := hT' i hi
    rcases z3 with z | z
    · rw [z2, z]; rfl
    · omega
  · rcases hO' i hi with z | ⟨s, l, z1, z2, z3, z4, _⟩
    · exact Or.inl z
    · exact Or.inr ⟨s, l, z1, z2, z3, z4⟩
