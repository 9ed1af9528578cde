theorem mm_or_dn {L O Lf : Nat → Int32} {τ τ' : Nat → Nat} {i : Nat} (h : ∀ s, s < 8 → τ' s ≤ τ s) (ho : mm_or L O Lf τ i) : mm_or L O Lf τ' i := by
  rcases ho with z | ⟨s, l, hs, hl, hO, hL, hq⟩
  · exact Or.inl z
  · refine Or.inr ⟨s, l, hs, hl, hO, hL, fun b hb => ?_⟩
    have := hq b hb
    have := h s hs
    omega
def mm_pr (L G W H P0 P C : Nat → Int32) (h p0 : Nat) : Prop := (∀ i q, bt (P0 i) q = true → bt (P i) q = true) ∧ ∀ a m q n, a < 8 → m < 16 → q < 8 → n < 8 → (a * 16 + m < h ∨ (a * 16 + m = h ∧ q < p0)) → bt (H (a * 16 + m)) q = true → W (a * 8 + mm_n (G m)) = nI n → bt (L a) n = true → mm_D G P C n m q
theorem mm_pr_up {L G W H P0 P C P' C' : Nat → Int32} {h p0 : Nat} (hP : ∀ i q, bt (P i) q = true → bt (P' i) q = true) (hC : ∀ i q, bt (C i) q = true → bt (C' i) q = true) (hr : mm_pr L G W H P0 P C h p0) : mm_pr L G W H P0 P' C' h p0 := by
  refine ⟨fun i q z => hP i q (hr.1 i q z), ?_⟩
  intro a m q n ha hm hq hn h1 h2 h3 h4
  have := hr.2 a m q n ha hm hq hn h1 h2 h3 h4
  exact ⟨fun z => hP _ _ (this.1 z), fun z => hC _ _ (this.2 z)⟩
theorem mm_pr_st {L G W H P0 P C : Nat → Int32} {h p0 : Nat} (hr : mm_pr L G W H P0 P C h p0)
  (hs : p0 < 8 → ∀ n, n < 8 → bt (H h) p0 = true → W (h / 16 * 8 + mm_n (G (h % 16))) = nI n → bt (L (h / 16)) n = true → mm_D G P C n (h % 16) p0) : mm_pr L G W H P0 P C h (p0 + 1) := by
  refine ⟨hr.1, ?_⟩
  intro a m q n ha hm hq hn h1 h2 h3 h4
  by_cases e : a * 16 + m = h ∧ q = p0
  · obtain ⟨e1, e2⟩ := e
    have ea : a = h / 16 := by omega
    have em : m = h % 16 := by omega
    rw [e1] at h2
    rw [ea, em] at h3
    rw [ea] at h4
    rw [em, e2]
    exact hs (by omega) n hn (by rw [← e2]; exact h2) h3 h4
  · exact hr.2 a m q n ha hm hq hn (by omega) h2 h3 h4
section
variable {d : Int32} {c : Nat} {L db S G N B P T R F W nF nW H C O Lf K r0 r1 r2 r3 r4 : Nat → Int32} {post : SX → Prop} {Q : Nat → Nat → Nat → Prop}
theorem mm_w_passOn {a m p e : Nat} (ha : a < 8) (hm : m < 16) (he : e < 8) (hp : p < 9) (hE : (if p = 8 then S m else G m) = nI e) (hW : W (a * 8 + e) = -1 ∨ ∃ n, n < 8 ∧ W (a * 8 + e) = nI n)
  (h0 : (∀ n, n < 8 → W (a * 8 + e) = nI n → bt (L a) n = false) → post (d, nI c, L, db, S, G, N, B, P, T, R, F, W, nF, nW, H, C, O, Lf, K, r0, r1, r2, r3, r4))
  (h1 : ∀ n, n < 8 → W (a * 8 + e) = nI n → bt (L a) n = true → wpX_send post (d, nI c, L, db, S, G, N, B, P, T, R, F, W, nF, nW, H, C, O, Lf, K, r0, r1, r2, r3, r4) (nI a) (nI n) (nI (m * 9 + p)) 0) :
  wpX_passOn post (d, nI c, L, db, S, G, N, B, P, T, R, F, W, nF, nW, H, C, O, Lf, K, r0, r1, r2, r3, r4) (nI a) (nI m) (nI p) := by
  have hmi : vp_in (nI m) 16 := vp_in_nI hm (by decide)
  have h21 : wX_passOn_21 post (nI a) (nI m) (nI p) (nI e) d (nI c) L db S G N B P T R F W nF nW H C O Lf K r0 r1 r2 r3 r4 := by
    refine ⟨pk_in (a * 8 + e) 64 (by omega) (mm_i8 a e), ?_⟩
    rw [pk_cl (a * 8 + e) (mm_i8 a e), mm_i9]
    rcases hW with hW | ⟨n, hn, hW⟩
    · refine nm_r hW (br_t rfl (h0 (fun n hn z => ?_)))
      rw [hW] at z
      exact absurd z.symm (mm_nm1 (by omega))
    · refine nm_r hW (br_f (mm_nm1 (by omega)) ⟨vp_in_nI ha (by decide), ?_⟩)
      rw [nI_clamp (n := a) (by omega)]
      refine mm_w_hb (by omega) (fun hb => h0 (fun n' hn' z => ?_)) (fun hb => h1 n hn hW hb)
      have : n' = n := (nI_eq (by omega) (by omega)).mp (z.symm.trans hW)
      rw [this]; exact hb
  refine pk_eq p 8 (fun e8 => ⟨hmi, ?_⟩) (fun e8 => ⟨hmi, ?_⟩)
  · rw [if_pos e8] at hE
    rw [nI_clamp (n := m) (by omega), hE]
    exact h21
  · rw [if_neg e8] at hE
    rw [nI_clamp (n := m) (by omega), hE]
    exact h21
theorem mm_w_pass11 {t h : Nat} {P0 : Nat → Int32} {J2 : Int32 → Int32 → Int32 → (Nat → Int32) → (Nat → Int32) → (Nat → Int32) → (Nat → Int32) → (Nat → Int32) → (Nat → Int32) → (Nat → Int32) → (Nat → Int32) → (Nat → Int32) → (Nat → Int32) → (Nat → Int32) → (Nat → Int32) → (Nat → Int32) → (Nat → Int32) → (Nat → Int32) → (Nat → Int32) → (Nat → Int32) → (Nat → Int32) → (Nat → Int32) → (Nat → Int32) → (Nat → Int32) → (Nat → Int32) → (Nat → Int32) → Prop}
  (hc : c ≤ 16) (hH : mm_HD c S G N) (hK : ∀ i, i < 16 → ∃ k, k ≤ 2 ∧ K i = nI k) (hW : ∀ a b, a < 8 → b < 8 → W (a * 8 + b) = -1 ∨ ∃ n, n < 8 ∧ W (a * 8 + b) = nI n)
  (hm : ∀ a m p, a < 8 → m < 16 → bt (H (a * 16 + m)) p = true → m < c)
  (hG : ∀ a m p n, a < 8 → m < 16 → p < 9 → n < 8 → bt (H (a * 16 + m)) p = true → W (a * 8 + mm_n (if p = 8 then S m else G m)) = nI n → bt (L a) n = true → mm_gd c L S G N T Q n m p ∧ mm_okl c L S N T n m p)
  (hh : h < 128)
  (hJ : ∀ P R C O Lf r0 r1 r2 r3 r4 : Nat → Int32, (∀ i, i < 16 → mm_or L O Lf (fun _ => t) i) → (∀ i, i < 16 → mm_lt (mm_Z c L S N T) (t + 1) r0 r1 r2 r3 i) → mm_MI c L S G N T Q P R C → (21 ≤ t → mm_pr L G W H P0 P C (h + 1) 0) → J2 (nI (h + 1)) d (nI c) L db S G N B P T R F W nF nW H C O Lf K r0 r1 r2 r3 r4) :
  ∀ (k p : Nat) (P R C O Lf r0 r1 r2 r3 r4 : Nat → Int32), p + k = 9 → (∀ i, i < 16 → mm_or L O Lf (fun _ => t) i) → (∀ i, i < 16 → mm_lt (mm_Z c L S N T) (t + 1) r0 r1 r2 r3 i) → mm_MI c L S G N T Q P R C → (21 ≤ t → mm_pr L G W H P0 P C h p) → wX_passPiecesOn_11 post J2 (nI h) (k + 1) (nI p) d (nI c) L db S G N B P T R F W nF nW H C O Lf K r0 r1 r2 r3 r4 := by
  intro k
  induction k with
  | zero =>
    intro p P R C O Lf r0 r1 r2 r3 r4 hp h1 h2 h3 h4
    have : p = 9 := by omega
    subst this
    refine br_t (by decide) (nm_r (nI_1 h) (hJ P R C O Lf r0 r1 r2 r3 r4 h1 h2 h3 (fun z => ?_)))
    refine ⟨(h4 z).1, ?_⟩
    intro a m q n ha hm' hq hn g1 g2 g3 g4
    exact (h4 z).2 a m q n ha hm' hq hn (by omega) g2 g3 g4
  | succ k ih =>
    intro p P R C O Lf r0 r1 r2 r3 r4 hp h1 h2 h3 h4
    refine br_f (nI_ge (b := 9) (by omega) (by decide)) ⟨vp_in_nI hh (by decide), ?_⟩
    rw [nI_clamp (n := h) (by omega)]
    refine mm_w_hb (by omega) (fun hb => nm_r (nI_1 p) (ih (p + 1) P R C O Lf r0 r1 r2 r3 r4 (by omega) h1 h2 h3 (fun z => mm_pr_st (h4 z) (fun _ n _ y => absurd y (by rw [hb]; decide))))) (fun hb => ⟨by decide, by decide, ?_⟩)
    have e1 : nI h / 16 = nI (h / 16) := by rw [mm_16, pk_div (by omega) (by omega) (by omega)]
    have e2 : nI h - nI h / 16 * 16 = nI (h % 16) := by rw [mm_16, pk_rem (by omega) (by omega) (by omega)]
    rw [e2, e1]
    have ha : h / 16 < 8 := by omega
    have hm16 : h % 16 < 16 := by omega
    have eh : h / 16 * 16 + h % 16 = h := by omega
    have hb' : bt (H (h / 16 * 16 + h % 16)) p = true := by rw [eh]; exact hb
    have hmc := hm (h / 16) (h % 16) p ha hm16 hb'
    obtain ⟨eS, hs, eG, hg, -⟩ := hH (h % 16) hmc
    have hE : (if p = 8 then S (h % 16) else G (h % 16)) = nI (mm_n (if p = 8 then S (h % 16) else G (h % 16))) := by
      by_cases e8 : p = 8
      · rw [if_pos e8]; exact eS
      · rw [if_neg e8]; exact eG
    have hEl : mm_n (if p = 8 then S (h % 16) else G (h % 16)) < 8 := by
      by_cases e8 : p = 8
      · rw [if_pos e8]; exact hs
      · rw [if_neg e8]; exact hg
    refine mm_w_passOn ha hm16 hEl (by omega) hE (hW _ _ ha hEl) (fun hno => nm_r (nI_1 p) (ih (p + 1) P R C O Lf r0 r1 r2 r3 r4 (by omega) h1 h2 h3 (fun z => mm_pr_st (h4 z) (fun p8 n hn _ y1 y2 => ?_)))) (fun n hn eW hab => ?_)
    · rw [if_neg (by omega)] at hno
      exact absurd y2 (by rw [hno n hn y1]; decide)
    · have hgo := hG (h / 16) (h % 16) p n ha hm16 (by omega) hn hb' eW hab
      have hwk : ∀ O Lf : Nat → Int32, (∀ i, i < 16 → mm_or L O Lf (mm_t1 (fun _ => t) (h / 16)) i) → ∀ i, i < 16 → mm_or L O Lf (fun _ => t) i := by
        intro O Lf z i hi
        refine mm_or_dn (fun s _ => ?_) (z i hi)
        unfold mm_t1
        by_cases es : s = h / 16
        · rw [if_pos es]; exact Nat.le_succ t
        · rw [if_neg es]; exact Nat.le_refl t
      refine mm_w_send (τ := fun _ => t) ha n hab hK h1 h2 (fun z => by omega) ⟨h / 16, n, ha, hn, rfl, rfl, Or.inr ⟨h % 16, p, by omega, rfl, hgo.2⟩⟩ ?_ ?_
      · intro O Lf r0 r1 r2 r3 r4 g1 g2 g3
        exact nm_r (nI_1 p) (ih (p + 1) P R C O Lf r0 r1 r2 r3 r4 (by omega) (hwk O Lf g1) g2 h3 (fun z => absurd z (by omega)))
      · intro O Lf r0 r1 r2 r3 r4 g1 g2
        refine mm_w_dl hc hH hn (by omega) h3 hgo.1 (fun P' R' C' m1 m2 m3 m4 => nm_r (nI_1 p) (ih (p + 1) P' R' C' O Lf r0 r1 r2 r3 r4 (by omega) (hwk O Lf g1) g2 m1 (fun z => mm_pr_st (mm_pr_up m2 m3 (h4 z)) (fun p8 n' hn' _ y1 y2 => ?_))))
        rw [if_neg (by omega)] at eW
        have : n' = n := (nI_eq (by omega) (by omega)).mp (y1.symm.trans eW)
        rw [this]
        exact m4 p8
theorem mm_w_pass2 {t : Nat} {P0 : Nat → Int32}
  (hc : c ≤ 16) (hH : mm_HD c S G N) (hK : ∀ i, i < 16 → ∃ k, k ≤ 2 ∧ K i = nI k) (hW : ∀ a b, a < 8 → b < 8 → W (a * 8 + b) = -1 ∨ ∃ n, n < 8 ∧ W (a * 8 + b) = nI n)
  (hm : ∀ a m p, a < 8 → m < 16 → bt (H (a * 16 + m)) p = true → m < c)
  (hG : ∀ a m p n, a < 8 → m < 16 → p < 9 → n < 8 → bt (H (a * 16 + m)) p = true → W (a * 8 + mm_n (if p = 8 then S m else G m)) = nI n → bt (L a) n = true → mm_gd c L S G N T Q n m p ∧ mm_okl c L S N T n m p)
  (hJ : ∀ P R C O Lf r0 r1 r2 r3 r4 : Nat → Int32, (∀ i, i < 16 → mm_or L O Lf (fun _ => t) i) → (∀ i, i < 16 → mm_lt (mm_Z c L S N T) (t + 1) r0 r1 r2 r3 i) → mm_MI c L S G N T Q P R C → (21 ≤ t → mm_pr L G W H P0 P C 128 0) → post (d, nI c, L, db, S, G, N, B, P, T, R, F, W, nF, nW, H, C, O, Lf, K, r0, r1, r2, r3, r4)) :
  ∀ (k h : Nat) (P R C O Lf r0 r1 r2 r3 r4 : Nat → Int32), h + k = 128 → (∀ i, i < 16 → mm_or L O Lf (fun _ => t) i) → (∀ i, i < 16 → mm_lt (mm_Z c L S N T) (t + 1) r0 r1 r2 r3 i) → mm_MI c L S G N T Q P R C → (21 ≤ t → mm_pr L G W H P0 P C h 0) → wX_passPiecesOn_2 post (k + 1) (nI h) d (nI c) L db S G N B P T R F W nF nW H C O Lf K r0 r1 r2 r3 r4 := by
  intro k
  induction k with
  | zero =>
    intro h P R C O Lf r0 r1 r2 r3 r4 hh h1 h2 h3 h4
    have : h = 128 := by omega
    subst this
    exact br_t (by decide) (hJ P R C O Lf r0 r1 r2 r3 r4 h1 h2 h3 h4)
  | succ k ih =>
    intro h P R C O Lf r0 r1 r2 r3 r4 hh h1 h2 h3 h4
    exact br_f (nI_ge (b := 128) (by omega) (by decide)) ⟨10, mm_w_pass11 hc hH hK hW hm hG (by omega) (fun P R C O Lf r0 r1 r2 r3 r4 g1 g2 g3 g4 => ih (h + 1) P R C O Lf r0 r1 r2 r3 r4 (by omega) g1 g2 g3 g4) 9 0 P R C O Lf r0 r1 r2 r3 r4 rfl h1 h2 h3 h4⟩
theorem mm_w_pass {t : Nat}
  (hc : c ≤ 16) (hH : mm_HD c S G N) (hK : ∀ i, i < 16 → ∃ k, k ≤ 2 ∧ K i = nI k) (hW : ∀ a b, a < 8 → b < 8 → W (a * 8 + b) = -1 ∨ ∃ n, n < 8 ∧ W (a * 8 + b) = nI n)
  (hm : ∀ a m p, a < 8 → m < 16 → bt (H (a * 16 + m)) p = true → m < c)
  (hG : ∀ a m p n, a < 8 → m < 16 → p < 9 → n < 8 → bt (H (a * 16 + m)) p = true → W (a * 8 + mm_n (if p = 8 then S m else G m)) = nI n → bt (L a) n = true → mm_gd c L S G N T Q n m p ∧ mm_okl c L S N T n m p)
  (h1 : ∀ i, i < 16 → mm_or L O Lf (fun _ => t) i) (h2 : ∀ i, i < 16 → mm_lt (mm_Z c L S N T) (t + 1) r0 r1 r2 r3 i) (h3 : mm_MI c L S G N T Q P R C)
  (hJ : ∀ P' R' C' O' Lf' r0' r1' r2' r3' r4' : Nat → Int32, (∀ i, i < 16 → mm_or L O' Lf' (fun _ => t) i) → (∀ i, i < 16 → mm_lt (mm_Z c L S N T) (t + 1) r0' r1' r2' r3' i) → mm_MI c L S G N T Q P' R' C' → (21 ≤ t → mm_pr L G W H P P' C' 128 0) → post (d, nI c, L, db, S, G, N, B, P', T, R', F, W, nF, nW, H, C', O', Lf', K, r0', r1', r2', r3', r4')) :
  wpX_passPiecesOn post (d, nI c, L, db, S, G, N, B, P, T, R, F, W, nF, nW, H, C, O, Lf, K, r0, r1, r2, r3, r4) :=
  ⟨129, mm_w_pass2 hc hH hK hW hm hG hJ 128 0 P R C O Lf r0 r1 r2 r3 r4 rfl h1 h2 h3 (fun _ => ⟨fun _ _ z => z, fun a m q n ha hm' hq hn g1 => absurd g1 (by omega)⟩)⟩
end
