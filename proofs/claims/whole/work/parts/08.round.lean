/-- what a station holds to pass on in round t -/
def mm_hk (c : Nat) (L S G N : Nat → Int32) (t : Nat) (T : Nat → Int32) (a m p : Nat) : Prop := m < c ∧ mm_cn L (mm_n (S m)) a ∧ ((p < 8 ∧ bt (mm_al (N m)) p = true ∧ a ≠ mm_n (G m)) ∨ (p = 8 ∧ a ≠ mm_n (S m) ∧ T m = 1)) ∧ (48 ≤ t → p < 8 → mm_cn L a (mm_n (G m)) → mm_wl L (55 - t) a (mm_n (G m))) ∧ (54 ≤ t → p = 8 → mm_wl L (min (62 - t) 7) a (mm_n (S m)))
section
variable {c t : Nat} {L S G N T W F nF nW : Nat → Int32}
theorem mm_hk_Q {a m p : Nat} (hL : mm_LK L) (hH : mm_HD c S G N) (ha : a < 8) (h : mm_Q c L S G N t T a m p) : mm_hk c L S G N t T a m p := by
  obtain ⟨h1, h2, h3, h4, h5⟩ := h
  obtain ⟨-, hs, -⟩ := hH m h1
  refine ⟨h1, h2, h3, fun ht hp hcn => ?_, fun ht hp => ?_⟩
  · rcases Nat.lt_or_ge t 49 with z | z
    · have : 55 - t = 7 := by omega
      rw [this]
      exact (mm_cn7 hL ha).mp hcn
    · exact h4 z hp
  · rcases Nat.lt_or_ge t 55 with z | z
    · have : min (62 - t) 7 = 7 := by omega
      rw [this]
      exact (mm_cn7 hL ha).mp (mm_cn_sy hL hs h2)
    · have : min (62 - t) 7 = 62 - t := by omega
      rw [this]
      exact h5 z hp
theorem mm_hk_S {m p : Nat} (hL : mm_LK L) (hH : mm_HD c S G N) (ht : t < 64) (h16 : t % 16 = 0) (hm : m < c) (hp : bt (mm_al (N m)) p = true) : mm_hk c L S G N t T (mm_n (S m)) m p := by
  obtain ⟨-, hs, -, hg, hne, eN, hN⟩ := hH m hm
  have hp8 : p < 8 := by
    rw [eN] at hp
    exact mm_al8 hN hp
  refine ⟨hm, mm_cn_rf _, Or.inl ⟨hp8, hp, hne⟩, fun h48 _ hcn => ?_, fun _ z => absurd z (by omega)⟩
  have : 55 - t = 7 := by omega
  rw [this]
  exact (mm_cn7 hL hs).mp hcn
/-- a piece that is passed on by a right way -/
theorem mm_way (hL : mm_LK L) (hW : mm_Wy L (fun a b => W (a * 8 + b))) {a b n k : Nat} (ha : a < 8) (hb : b < 8) (hab : a ≠ b) (hk : k ≤ 7) (hn : n < 8) (e : W (a * 8 + b) = nI n) (hw : mm_wl L k a b) : ∃ j, k = j + 1 ∧ mm_wl L j n b := by
  cases k with
  | zero => exact absurd hw hab
  | succ j =>
    obtain ⟨c', hc', e', _, hw'⟩ := (hW a b ha hb hab).1 j (by omega) hw
    have : c' = n := (nI_eq (by omega) (by omega)).mp (e'.symm.trans e)
    rw [this] at hw'
    exact ⟨j, rfl, hw'⟩
theorem mm_wcn (hL : mm_LK L) (hW : mm_Wy L (fun a b => W (a * 8 + b))) {a b n : Nat} (ha : a < 8) (hb : b < 8) (hab : a ≠ b) (hn : n < 8) (e : W (a * 8 + b) = nI n) : mm_cn L a b := by
  apply Classical.byContradiction
  intro z
  have h := (hW a b ha hb hab).2 (fun w => z ⟨7, w⟩)
  rw [show W (a * 8 + b) = -1 from h] at e
  exact mm_nm1 (by omega) e.symm
theorem mm_good {a m p n : Nat} (hL : mm_LK L) (hH : mm_HD c S G N) (hT : ∀ m, m < c → T m = 0 ∨ T m = 1) (hW : 32 ≤ t → mm_Wy L (fun a b => W (a * 8 + b)))
  (ha : a < 8) (hp9 : p < 9) (hn : n < 8) (hk : mm_hk c L S G N t T a m p) (eW : W (a * 8 + mm_n (if p = 8 then S m else G m)) = nI n) (hab : bt (L a) n = true) :
  mm_gd c L S G N T (mm_Q c L S G N (t + 1) T) n m p ∧ mm_okl c L S N T n m p := by
  obtain ⟨hm, hcn, h3, h4, h5⟩ := hk
  obtain ⟨-, hs, -, hg, hne, eN, hN⟩ := hH m hm
  have hcn' : mm_cn L (mm_n (S m)) n := mm_cn_st ha hcn hab
  by_cases e8 : p = 8
  · rw [if_pos e8] at eW
    rcases h3 with h3 | ⟨_, has, hT1⟩
    · omega
    refine ⟨⟨hm, fun _ => ⟨hT1, fun hns => ⟨hm, hcn', Or.inr ⟨rfl, hns, hT1⟩, fun _ z => absurd z (by omega), fun h55 _ => ?_⟩⟩, fun z => absurd z (by omega)⟩, hm, hcn', fun z => absurd z (by omega), fun _ => hT1⟩
    obtain ⟨j, ej, hw⟩ := mm_way hL (hW (by omega)) ha hs has (by omega) hn eW (h5 (by omega) e8)
    exact mm_wl_up (by omega) hw
  · rw [if_neg e8] at eW
    rcases h3 with ⟨hp8, hal, hag⟩ | h3
    · refine ⟨⟨hm, fun z => absurd z e8, fun _ => ⟨fun eng => ⟨fun _ => ⟨hal, by rw [← eng]; exact hcn'⟩, fun hT0 => ?_⟩, fun hng => ⟨hm, hcn', Or.inl ⟨hp8, hal, hng⟩, fun h49 _ => ?_, fun _ z => absurd z e8⟩⟩⟩, hm, hcn', fun _ => hal, fun z => absurd z e8⟩
      · have hT1 : T m = 1 := (hT m hm).elim (fun z => absurd z hT0) id
        refine ⟨hm, hcn', Or.inr ⟨rfl, fun z => hne (z.symm.trans eng), hT1⟩, fun _ z => absurd z (by omega), fun h55 _ => ?_⟩
        rcases Nat.lt_or_ge t 55 with z | z
        · have : 62 - (t + 1) = 7 := by omega
          rw [this]
          exact (mm_cn7 hL hn).mp (mm_cn_sy hL hs hcn')
        · have hc2 := mm_wcn hL (hW (by omega)) ha hg hag hn eW
          have hw := h4 (by omega) hp8 hc2
          have : 55 - t = 0 := by omega
          rw [this] at hw
          exact absurd hw hag
      · have hc2 := mm_wcn hL (hW (by omega)) ha hg hag hn eW
        obtain ⟨j, ej, hw⟩ := mm_way hL (hW (by omega)) ha hg hag (by omega) hn eW (h4 (by omega) hp8 hc2)
        exact mm_wl_up (by omega) hw
    · omega
theorem mm_X_of (hL : mm_LK L) (hn : mm_NF nF nW) (hx : mm_NX L F nF nW 8 0) : mm_X L (fun a b => mm_n (F (a * 8 + b))) (fun a b => mm_n (nF (a * 8 + b))) (fun a b => nW (a * 8 + b)) := by
  intro a b ha hb
  have h0 := hn a b ha hb
  refine ⟨fun e => h0.2.1 e, fun e => ⟨(h0.2.2.1 e).1, (h0.2.2.1 e).2, fun x hx8 hax => ?_, ?_⟩⟩
  · exact hx.2 x a b hx8 ha hb e (Or.inl hx8) (hL a ha x hax).2.2
  · exact hx.1 a b ha hb e
end
/-- the state of settle at the head of round t -/
def mm_SI (c t : Nat) (L S G N T0 P T R F W C O Lf r0 r1 r2 r3 : Nat → Int32) : Prop :=
  mm_TI c L S G T0 T ∧ mm_MI c L S G N T (mm_Q c L S G N t T) P R C ∧ (∀ i, i < 16 → mm_or L O Lf (fun _ => t) i) ∧ (∀ i, i < 16 → mm_lt (mm_Z c L S N T) t r0 r1 r2 r3 i) ∧ mm_NF F W ∧
  (24 ≤ t → mm_E L (fun a b => mm_n (F (a * 8 + b))) (min (t - 24) 7)) ∧ (32 ≤ t → mm_Wy L (fun a b => W (a * 8 + b))) ∧
  (33 ≤ t → ∀ m, m < c → mm_cn L (mm_n (S m)) (mm_n (G m)) → T m = 1 ∨ (t < 39 ∧ ∀ p, bt (mm_al (N m)) p = true → bt (P m) p = true ∨ ∃ a, a < 8 ∧ bt (C (a * 16 + m)) p = true ∧ mm_wl L (39 - t) a (mm_n (G m))))
section
variable {d : Int32} {c : Nat} {L db S G N B P T R F W nF nW H C O Lf K r0 r1 r2 r3 r4 : Nat → Int32} {post : SX → Prop}
/-- live pieces after passPiecesOn -/
theorem mm_live {t : Nat} {P' C' R' : Nat → Int32} (hL : mm_LK L) (hH : mm_HD c S G N) (hc : c ≤ 16) (ht : 32 ≤ t)
  (hR : ∀ m, m < c → R m = 0 ∨ T m = 1)
  (hLV : 33 ≤ t → ∀ m, m < c → mm_cn L (mm_n (S m)) (mm_n (G m)) → T m = 1 ∨ (t < 39 ∧ ∀ p, bt (mm_al (N m)) p = true → bt (P m) p = true ∨ ∃ a, a < 8 ∧ bt (C (a * 16 + m)) p = true ∧ mm_wl L (39 - t) a (mm_n (G m))))
  (hQ : ∀ a m p, a < 8 → m < 16 → bt (C (a * 16 + m)) p = true → mm_Q c L S G N t T a m p)
  (hW : mm_Wy L (fun a b => W (a * 8 + b)))
  (hh : ∀ a m p, a < 8 → m < 16 → (bt (H (a * 16 + m)) p = true ↔ (bt (C (a * 16 + m)) p = true ∨ (t % 16 = 0 ∧ m < c ∧ a = mm_n (S m) ∧ R m = 0 ∧ bt (mm_al (N m)) p = true))))
  (hr : mm_pr L G W H P P' C' 128 0) :
  ∀ m, m < c → mm_cn L (mm_n (S m)) (mm_n (G m)) → T m = 1 ∨ (t < 39 ∧ ∀ p, bt (mm_al (N m)) p = true → bt (P' m) p = true ∨ ∃ a, a < 8 ∧ bt (C' (a * 16 + m)) p = true ∧ mm_wl L (39 - (t + 1)) a (mm_n (G m))) := by
  intro m hm hcn
  obtain ⟨-, hs, -, hg, hne, eN, hN⟩ := hH m hm
  have step : ∀ a p k, a < 8 → bt (mm_al (N m)) p = true → bt (H (a * 16 + m)) p = true → a ≠ mm_n (G m) → k ≤ 7 → k = 39 - t → mm_wl L k a (mm_n (G m)) → bt (P' m) p = true ∨ ∃ a, a < 8 ∧ bt (C' (a * 16 + m)) p = true ∧ mm_wl L (39 - (t + 1)) a (mm_n (G m)) := by
    intro a p k ha hp hb hag hk7 hk hw
    have hp8 : p < 8 := by
      rw [eN] at hp
      exact mm_al8 hN hp
    cases k with
    | zero => exact absurd hw hag
    | succ j =>
      obtain ⟨n, hn, e, hab, hw'⟩ := (hW a _ ha hg hag).1 j (by omega) hw
      have hd := hr.2 a m p n ha (by omega) hp8 hn (Or.inl (by omega)) hb e hab
      by_cases eg : n = mm_n (G m)
      · exact Or.inl (hd.1 eg)
      · refine Or.inr ⟨n, hn, hd.2 eg, ?_⟩
        have : 39 - (t + 1) = j := by omega
        rw [this]
        exact hw'
  rcases Nat.lt_or_ge t 33 with z | z
  · rcases hR m hm with hR0 | hT1
    · refine Or.inr ⟨by omega, fun p hp => ?_⟩
      exact step (mm_n (S m)) p 7 hs hp ((hh _ m p hs (by omega)).mpr (Or.inr ⟨by omega, hm, rfl, hR0, hp⟩)) hne (by omega) (by omega) ((mm_cn7 hL hs).mp hcn)
    · exact Or.inl hT1
  · rcases hLV z m hm hcn with h1 | ⟨h39, h2⟩
    · exact Or.inl h1
    · refine Or.inr ⟨h39, fun p hp => ?_⟩
      rcases h2 p hp with h3 | ⟨a, ha, hb, hw⟩
      · exact Or.inl (hr.1 m p h3)
      · have hq := hQ a m p ha (by omega) hb
        have hp8 : p < 8 := by
          rw [eN] at hp
          exact mm_al8 hN hp
        have hag : a ≠ mm_n (G m) := by
          rcases hq.2.2.1 with y | y
          · exact y.2.2
          · omega
        exact step a p (39 - t) ha hp ((hh _ m p ha (by omega)).mpr (Or.inl hb)) hag (by omega) rfl hw
theorem mm_w_32 {po : Int32 → SX → Prop} {t n : Nat} {x1 : Int32} {C0 T0 : Nat → Int32} (hL : mm_LK L) (hc : c ≤ 16) (hH : mm_HD c S G N) (hK : ∀ i, i < 16 → ∃ k, k ≤ 2 ∧ K i = nI k) (ht : t < 64)
  (hTI : mm_TI c L S G T0 T) (hQ : ∀ a m p, a < 8 → m < 16 → bt (C0 (a * 16 + m)) p = true → mm_Q c L S G N t T a m p)
  (hM : mm_MI c L S G N T (mm_Q c L S G N (t + 1) T) P R C) (hO : ∀ i, i < 16 → mm_or L O Lf (fun _ => t) i) (hT : ∀ i, i < 16 → mm_lt (mm_Z c L S N T) (t + 1) r0 r1 r2 r3 i)
  (hF : mm_NF F W) (hE : 24 ≤ t → mm_E L (fun a b => mm_n (F (a * 8 + b))) (min (t - 24) 7)) (hW : 32 ≤ t → mm_Wy L (fun a b => W (a * 8 + b)))
  (hLV : 33 ≤ t → ∀ m, m < c → mm_cn L (mm_n (S m)) (mm_n (G m)) → T m = 1 ∨ (t < 39 ∧ ∀ p, bt (mm_al (N m)) p = true → bt (P m) p = true ∨ ∃ a, a < 8 ∧ bt (C0 (a * 16 + m)) p = true ∧ mm_wl L (39 - t) a (mm_n (G m))))
  (hn : mm_NF nF nW) (hnx : 24 ≤ t → ∀ y z, y < 8 → z < 8 → y ≠ z → mm_n (nF (y * 8 + z)) = 8 ∧ nW (y * 8 + z) = -1)
  (hh : ∀ a m p, a < 8 → m < 16 → (bt (H (a * 16 + m)) p = true ↔ (bt (C0 (a * 16 + m)) p = true ∨ (t % 16 = 0 ∧ m < c ∧ a = mm_n (S m) ∧ R m = 0 ∧ bt (mm_al (N m)) p = true))))
  (hJ : ∀ P T R F W nF nW C O Lf r0 r1 r2 r3 r4 : Nat → Int32, mm_SI c (t + 1) L S G N T0 P T R F W C O Lf r0 r1 r2 r3 → wX_settle_7 po x1 n (nI (t + 1)) d (nI c) L db S G N B P T R F W nF nW H C O Lf K r0 r1 r2 r3 r4) :
  wX_settle_32 po (wX_settle_7 po x1 n) x1 (nI t) d (nI c) L db S G N B P T R F W nF nW H C O Lf K r0 r1 r2 r3 r4 := by
  have hhk : ∀ a m p, a < 8 → m < 16 → bt (H (a * 16 + m)) p = true → mm_hk c L S G N t T a m p := by
    intro a m p ha hm hb
    rcases (hh a m p ha hm).mp hb with z | ⟨z1, z2, z3, z4, z5⟩
    · exact mm_hk_Q hL hH ha (hQ a m p ha hm z)
    · rw [z3]
      exact mm_hk_S hL hH ht z1 z2 z5
  have hT01 : ∀ m, m < c → T m = 0 ∨ T m = 1 := fun m hm => (hTI.1 m hm).1
  refine mm_w_pass (Q := mm_Q c L S G N (t + 1) T) hc hH hK (fun a b ha hb => (hF a b ha hb).2.2.2) (fun a m p ha hm hb => (hhk a m p ha hm hb).1) (fun a m p n' ha hm hp hn' hb e hab => mm_good hL hH hT01 hW ha hp hn' (hhk a m p ha hm hb) e hab) hO hT hM ?_
  intro P1 R1 C1 O1 Lf1 q0 q1 q2 q3 q4 g1 g2 g3 g4
  have hlive : 32 ≤ t → ∀ m, m < c → mm_cn L (mm_n (S m)) (mm_n (G m)) → T m = 1 ∨ (t < 39 ∧ ∀ p, bt (mm_al (N m)) p = true → bt (P1 m) p = true ∨ ∃ a, a < 8 ∧ bt (C1 (a * 16 + m)) p = true ∧ mm_wl L (39 - (t + 1)) a (mm_n (G m))) :=
    fun z => mm_live (R' := R1) hL hH hc z hM.2.2 hLV hQ (hW z) hh (g4 (by omega))
  refine mm_w_tell (Z := mm_Z c L S N T) hL hK hF (fun x y hx hy => ⟨x, y, hx, hy, rfl, rfl, Or.inl rfl⟩) g1 g2 hn hnx ?_
  intro nF2 nW2 O2 Lf2 s0 s1 s2 s3 s4 k1 k2 k3 k4
  refine mm_w_let hc hH T0 (fun z m hm hcn => ?_) hTI g3 ?_
  · rcases hlive (by omega) m hm hcn with y | y
    · exact y
    · omega
  intro T2 C2 l1 l2 l3 l4 l5
  refine mm_w_bel ?_
  intro F3 W3 b1
  refine nm_r (nI_1 t) (hJ P1 T2 R1 F3 W3 nF2 nW2 C2 O2 Lf2 s0 s1 s2 s3 s4 ?_)
  have bF : ∀ a b, a < 8 → b < 8 → F3 (a * 8 + b) = nF2 (a * 8 + b) ∧ W3 (a * 8 + b) = nW2 (a * 8 + b) := fun a b ha hb => b1 (a * 8 + b) (by omega)
  have hX : 24 ≤ t → mm_X L (fun a b => mm_n (F (a * 8 + b))) (fun a b => mm_n (F3 (a * 8 + b))) (fun a b => W3 (a * 8 + b)) := by
    intro z a b ha hb
    have := mm_X_of hL k3 (k4 z) a b ha hb
    dsimp only
    rw [(bF a b ha hb).1, (bF a b ha hb).2]
    exact this
  refine ⟨l1, l2, k1, fun i hi => mm_lt_T l3 (k2 i hi), fun a b ha hb => ?_, fun z => ?_, fun z => ?_, fun z m hm hcn => ?_⟩
  · rw [(bF a b ha hb).1, (bF a b ha hb).2]
    exact k3 a b ha hb
  · rcases Nat.lt_or_ge t 24 with y | y
    · have e : min (t + 1 - 24) 7 = 0 := by omega
      rw [e]
      intro a b k ha hb hk
      have hk0 : k = 0 := by omega
      subst hk0
      have f0 := k3 a b ha hb
      dsimp only
      rw [(bF a b ha hb).1]
      constructor
      · intro y2
        apply Classical.byContradiction
        intro y3
        have := (f0.2.2.1 y3).1
        omega
      · intro y2
        have := f0.2.1 y2
        omega
    · exact mm_E_t hL (hX y) y (hE y)
  · have he := hE (by omega)
    have e : min (t - 24) 7 = 7 := by omega
    rw [e] at he
    exact mm_Wy_of hL (hX (by omega)) he
  · rcases Nat.lt_or_ge t 38 with y | y
    · rcases hlive (by omega) m hm hcn with y1 | ⟨y1, y2⟩
      · exact Or.inl (l3 m hm y1)
      · refine Or.inr ⟨by omega, fun p hp => ?_⟩
        rcases y2 p hp with y3 | ⟨a, ha, y4, y5⟩
        · exact Or.inl y3
        · exact Or.inr ⟨a, ha, l4 _ _ y4, y5⟩
    · refine Or.inl (l5 (fun m hm hcn => ?_) m hm hcn)
      rcases hlive (by omega) m hm hcn with y1 | ⟨y1, y2⟩
      · exact Or.inl y1
      · rcases hT01 m hm with hT0 | hT1
        · refine Or.inr (b_ext (fun p _ => ?_))
          obtain ⟨-, hs, -, hg, hne, eN, hN⟩ := hH m hm
          by_cases hb : bt (mm_al (N m)) p = true
          · rw [hb]
            rcases y2 p hb with y3 | ⟨a, ha, y4, y5⟩
            · exact y3
            · have hq := g3.1 a m p ha (by omega) y4
              have hp8 : p < 8 := by
                rw [eN] at hb
                exact mm_al8 hN hb
              have hag : a ≠ mm_n (G m) := by
                rcases hq.2.2.1 with x | x
                · exact x.2.2
                · omega
              have e0 : 39 - (t + 1) = 0 := by omega
              rw [e0] at y5
              exact absurd y5 hag
          · rw [Bool.eq_false_iff.mpr hb]
            apply Bool.eq_false_iff.mpr
            intro x
            exact hb (g3.2.1 m hm hT0 p x).1
        · exact Or.inl hT1
theorem mm_w_round {po : Int32 → SX → Prop} {t n : Nat} {x1 : Int32} {T0 : Nat → Int32} (hL : mm_LK L) (hc : c ≤ 16) (hH : mm_HD c S G N) (hK : ∀ i, i < 16 → ∃ k, k ≤ 2 ∧ K i = nI k) (ht : t < 64)
  (hSI : mm_SI c t L S G N T0 P T R F W C O Lf r0 r1 r2 r3)
  (hJ : ∀ P T R F W nF nW H C O Lf r0 r1 r2 r3 r4 : Nat → Int32, mm_SI c (t + 1) L S G N T0 P T R F W C O Lf r0 r1 r2 r3 → wX_settle_7 po x1 n (nI (t + 1)) d (nI c) L db S G N B P T R F W nF nW H C O Lf K r0 r1 r2 r3 r4) :
  wX_settle_7 po x1 (n + 1) (nI t) d (nI c) L db S G N B P T R F W nF nW H C O Lf K r0 r1 r2 r3 r4 := by
  obtain ⟨hTI, hM, hO, hT, hF, hE, hW, hLV⟩ := hSI
  refine br_f (nI_ge (b := 64) ht (by decide)) (mm_w_beg ?_)
  intro nF1 nW1 H1 C1 a1 a2
  have hM1 : mm_MI c L S G N T (mm_Q c L S G N (t + 1) T) P R C1 := by
    refine ⟨fun a m p ha hm hb => ?_, hM.2.1, hM.2.2⟩
    rw [(a2 (a * 16 + m) (by omega)).2, b_0] at hb
    cases hb
  have hi8 : ∀ a b, a < 8 → b < 8 → nF1 (a * 8 + b) = nI (if a = b then 0 else 8) ∧ nW1 (a * 8 + b) = -1 := by
    intro a b ha hb
    have h := a1 (a * 8 + b) (by omega)
    rw [show (a * 8 + b) / 8 = a from by omega, show (a * 8 + b) % 8 = b from by omega] at h
    refine ⟨?_, h.2⟩
    rw [h.1]
    by_cases e : a = b
    · rw [if_pos e, if_pos e]; rfl
    · rw [if_neg e, if_neg e]; rfl
  have hN1 : mm_NF nF1 nW1 := by
    intro a b ha hb
    obtain ⟨h1, h2⟩ := hi8 a b ha hb
    rw [h1, h2]
    by_cases e : a = b
    · rw [if_pos e, mm_nI (by omega)]
      exact ⟨rfl, fun _ => rfl, fun z => absurd e z, Or.inl rfl⟩
    · rw [if_neg e, mm_nI (by omega)]
      exact ⟨rfl, fun z => absurd z e, fun _ => ⟨by omega, by omega⟩, Or.inl rfl⟩
  refine mm_w_late (t := t) (Q := mm_Q c L S G N (t + 1) T) hc hH (fun h24 n' m p hn' hp hok => ?_) hM1 hN1 hT ?_
  · obtain ⟨o1, o2, o3, o4⟩ := hok
    obtain ⟨-, hs, -, hg, hne, -⟩ := hH m o1
    refine ⟨o1, fun e8 => ⟨o4 e8, fun hns => ⟨o1, o2, Or.inr ⟨rfl, hns, o4 e8⟩, fun z => absurd z (by omega), fun z => absurd z (by omega)⟩⟩, fun p8 => ⟨fun en => ⟨fun _ => ⟨o3 p8, by rw [← en]; exact o2⟩, fun hT0 => ?_⟩, fun hng => ⟨o1, o2, Or.inl ⟨p8, o3 p8, hng⟩, fun z => absurd z (by omega), fun z => absurd z (by omega)⟩⟩⟩
    have hT1 : T m = 1 := ((hTI.1 m o1).1).elim (fun z => absurd z hT0) id
    exact ⟨o1, o2, Or.inr ⟨rfl, fun z => hne (z.symm.trans en), hT1⟩, fun z => absurd z (by omega), fun z => absurd z (by omega)⟩
  intro P2 R2 nF2 nW2 C2 q0 g1 g2 g3 g4
  have e16 : nI t - nI t / 16 * 16 = nI (t % 16) := by rw [mm_16, pk_rem (by omega) (by omega) (by omega)]
  refine ⟨by decide, ?_⟩
  rw [e16]
  have hLV2 : 33 ≤ t → ∀ m, m < c → mm_cn L (mm_n (S m)) (mm_n (G m)) → T m = 1 ∨ (t < 39 ∧ ∀ p, bt (mm_al (N m)) p = true → bt (P2 m) p = true ∨ ∃ a, a < 8 ∧ bt (C (a * 16 + m)) p = true ∧ mm_wl L (39 - t) a (mm_n (G m))) := by
    intro z
    rw [(g4 (by omega)).1]
    exact hLV z
  have hnx : 24 ≤ t → ∀ y z, y < 8 → z < 8 → y ≠ z → mm_n (nF2 (y * 8 + z)) = 8 ∧ nW2 (y * 8 + z) = -1 := by
    intro z y z' hy hz hyz
    obtain ⟨-, -, -, e1, e2⟩ := g4 z
    obtain ⟨h1, h2⟩ := hi8 y z' hy hz
    rw [e1, e2, h1, h2, if_neg hyz]
    exact ⟨mm_nI (by omega), rfl⟩
  refine pk_eq (t % 16) 0 (fun e0 => mm_w_up hc hH ?_) (fun e0 => ?_)
  · intro H3 u1
    refine mm_w_32 (C0 := C) (T0 := T0) hL hc hH hK ht hTI hM.1 g1 hO g3 hF hE hW hLV2 g2 hnx ?_ (fun P T R F W nF nW C O Lf r0 r1 r2 r3 r4 z => hJ P T R F W nF nW H3 C O Lf r0 r1 r2 r3 r4 z)
    intro a m p ha hm
    rw [u1 a m p ha hm, (a2 (a * 16 + m) (by omega)).1]
    exact ⟨fun z => z.elim Or.inl (fun z => Or.inr ⟨e0, z⟩), fun z => z.elim Or.inl (fun z => Or.inr z.2)⟩
  · refine mm_w_32 (C0 := C) (T0 := T0) hL hc hH hK ht hTI hM.1 g1 hO g3 hF hE hW hLV2 g2 hnx ?_ (fun P T R F W nF nW C O Lf r0 r1 r2 r3 r4 z => hJ P T R F W nF nW H1 C O Lf r0 r1 r2 r3 r4 z)
    intro a m p ha hm
    rw [(a2 (a * 16 + m) (by omega)).1]
    exact ⟨Or.inl, fun z => z.elim id (fun z => absurd z.1 e0)⟩
theorem mm_w_rounds {po : Int32 → SX → Prop} {x1 : Int32} {T0 : Nat → Int32} (hL : mm_LK L) (hc : c ≤ 16) (hH : mm_HD c S G N) (hK : ∀ i, i < 16 → ∃ k, k ≤ 2 ∧ K i = nI k)
  (hJ : ∀ P T R F W nF nW H C O Lf r0 r1 r2 r3 r4 : Nat → Int32, mm_SI c 64 L S G N T0 P T R F W C O Lf r0 r1 r2 r3 → po (nI (mm_cth T c) - x1) (d, nI c, L, db, S, G, N, B, P, T, R, F, W, nF, nW, H, C, O, Lf, K, r0, r1, r2, r3, r4)) :
  ∀ (k t : Nat) (P T R F W nF nW H C O Lf r0 r1 r2 r3 r4 : Nat → Int32), t + k = 64 → mm_SI c t L S G N T0 P T R F W C O Lf r0 r1 r2 r3 → wX_settle_7 po x1 (k + 1) (nI t) d (nI c) L db S G N B P T R F W nF nW H C O Lf K r0 r1 r2 r3 r4 := by
  intro k
  induction k with
  | zero =>
    intro t P T R F W nF nW H C O Lf r0 r1 r2 r3 r4 ht h1
    have : t = 64 := by omega
    subst this
    exact br_t (by decide) (mm_w_cth hc (hJ P T R F W nF nW H C O Lf r0 r1 r2 r3 r4 h1))
  | succ k ih =>
    intro t P T R F W nF nW H C O Lf r0 r1 r2 r3 r4 ht h1
    exact mm_w_round hL hc hH hK (by omega) h1 (fun P T R F W nF nW H C O Lf r0 r1 r2 r3 r4 z => ih (t + 1) P T R F W nF nW H C O Lf r0 r1 r2 r3 r4 (by omega) z)
end
