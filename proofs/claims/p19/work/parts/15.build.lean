section LPF
variable {q : Nat → Nat → Nat} {w : Nat → Int32} {t tb : Nat → Nat} {nt tm R n : Nat} {rk : Nat → Nat}
theorem lc_fm_Fm {l a b c : Nat} {p0 p1 p2 p3 : Int32} (h : lc_fm nt tm l a b c) (e0 : p0 = nI l) (e1 : p1 = nI a) (e2 : p2 = lc_cd b) (e3 : p3 = lc_cd c) : lc_Fm nt tm p0 p1 p2 p3 := ⟨l, a, b, c, h, e0, e1, e2, e3⟩
theorem lc_cd_i {b c : Nat} (hb : b ≤ 16) (hc : c ≤ 16) (h : lc_cd b = lc_cd c) : b = c := by
  by_cases z : c = 16
  · subst z
    rw [lc_cd_16] at h
    exact (lc_cd_e hb).mp h
  · by_cases y : b = 16
    · subst y
      rw [lc_cd_16] at h
      exact ((lc_cd_e hc).mp h.symm).symm
    · rw [lc_cd_n z, lc_cd_n y] at h
      exact (nI_eq (by omega) (by omega)).mp h
theorem lc_fm_16 {l a b c : Nat} (h8 : nt ≤ 8) (t8 : tm ≤ 8) (h : lc_fm nt tm l a b c) : l < 8 ∧ a < 16 ∧ b ≤ 16 ∧ c ≤ 16 := by
  unfold lc_fm lc_va at h; omega
theorem lc_G_add {l a b c : Nat} (hG : lc_G nt tm R q) (h : lc_fm nt tm l a b c) : lc_G nt tm (R + 1) (lc_add q R l a b c) := by
  refine ⟨hG.1, hG.2.1, fun r hr => ?_⟩
  unfold lc_gr
  by_cases z : r = R
  · subst z
    rw [lc_add_0, lc_add_1, lc_add_2, lc_add_3]
    exact h
  · have hr' : r < R := by omega
    rw [lc_add_lo hr', lc_add_lo hr', lc_add_lo hr', lc_add_lo hr']
    exact hG.2.2 r hr'
variable {xP xC xK xM xL : Int32} {ul wy oR oS oE oD gR gP gS gE gK gD : Nat → Int32}
/-- one rule for two objects of one grammar: both take it, or both refuse it -/
theorem lz_add2 {post : Int32 → St2 → Prop} {p0 p1 p2 p3 : Int32} (hG : lc_G nt tm R q) (h24 : R ≤ 24) (hA : ∃ rk, lc_A R q rk)
    (h : ∀ (R' : Nat) (q' : Nat → Nat → Nat) (r' xP' xK' xM' : Int32), lc_G nt tm R' q' → R' ≤ 24 → (∃ rk, lc_A R' q' rk) → (∀ {postb : Int32 → St2 → Prop} {tb : Nat → Nat} {xPb xCb xKb xMb xLb : Int32} {ulb wyb oRb oSb oEb oDb gRb gPb gSb gEb gKb gDb : Nat → Int32}, (∀ (rb xP2 xK2 xM2 : Int32), postb rb ((nI nt), (nI tm), (nI R'), (nI n), xP2, xCb, xK2, xM2, xLb, (lc_rc q'), w, ulb, (lc_tr tb), wyb, oRb, oSb, oEb, oDb, gRb, gPb, gSb, gEb, gKb, gDb)) → wpX_addRule postb ((nI nt), (nI tm), (nI R), (nI n), xPb, xCb, xKb, xMb, xLb, (lc_rc q), w, ulb, (lc_tr tb), wyb, oRb, oSb, oEb, oDb, gRb, gPb, gSb, gEb, gKb, gDb) p0 p1 p2 p3) → post r' ((nI nt), (nI tm), (nI R'), (nI n), xP', xC, xK', xM', xL, (lc_rc q'), w, ul, (lc_tr t), wy, oR, oS, oE, oD, gR, gP, gS, gE, gK, gD)) :
    wpX_addRule post ((nI nt), (nI tm), (nI R), (nI n), xP, xC, xK, xM, xL, (lc_rc q), w, ul, (lc_tr t), wy, oR, oS, oE, oD, gR, gP, gS, gE, gK, gD) p0 p1 p2 p3 := by
  have h8 := hG.1
  have t8 := hG.2.1
  refine lx_addRule hG h24 (fun hF => ?_) (fun hF hR => ?_) (fun l a hf e0 e1 e2 e3 hR ha hc => ?_) (fun l a b c hf e0 e1 e2 e3 hR hc => ?_)
  · refine h R q _ _ _ _ hG h24 hA (fun hb => ?_)
    refine lx_addRule hG h24 (fun _ => hb _ _ _ _) (fun z => absurd z hF) (fun l a hf e0 e1 e2 e3 => ?_) (fun l a b c hf e0 e1 e2 e3 => absurd (lc_fm_Fm hf e0 e1 e2 e3) hF)
    exact absurd (lc_fm_Fm hf e0 e1 (e2.trans lc_cd_16.symm) (e3.trans lc_cd_16.symm)) hF
  · refine h R q _ _ _ _ hG h24 hA (fun hb => ?_)
    refine lx_addRule hG h24 (fun z => absurd hF z) (fun _ _ => hb _ _ _ _) (fun l a hf e0 e1 e2 e3 hR' => ?_) (fun l a b c hf e0 e1 e2 e3 hR' => ?_)
    · omega
    · omega
  · have hF := lc_fm_Fm hf e0 e1 (e2.trans lc_cd_16.symm) (e3.trans lc_cd_16.symm)
    refine h R q _ _ _ _ hG h24 hA (fun hb => ?_)
    refine lx_addRule hG h24 (fun z => absurd hF z) (fun _ hR' => ?_) (fun l' a' hf' e0' e1' e2' e3' hR' ha' hc' => hb _ _ _ _) (fun l' a' b' c' hf' e0' e1' e2' e3' hR' hc' => ?_)
    · omega
    · exfalso
      obtain ⟨q1, q2, q3, q4⟩ := lc_fm_16 h8 t8 hf
      obtain ⟨q1', q2', q3', q4'⟩ := lc_fm_16 h8 t8 hf'
      have hb : b' = 16 := (lc_cd_e q3').mp (e2'.symm.trans e2)
      have hl : l' = l := (nI_eq (by omega) (by omega)).mp (e0'.symm.trans e0)
      have ha2 : a' = a := (nI_eq (by omega) (by omega)).mp (e1'.symm.trans e1)
      subst hl ha2
      have := hc' hb ha
      rw [hc] at this
      exact absurd this (by decide)
  · have hF := lc_fm_Fm hf e0 e1 e2 e3
    obtain ⟨q1, q2, q3, q4⟩ := lc_fm_16 h8 t8 hf
    obtain ⟨rk, hA⟩ := hA
    refine h (R + 1) (lc_add q R l a b c) _ _ _ _ (lc_G_add hG hf) (by omega) (lc_A_add hA (fun ha hb => ?_)) (fun hb => ?_)
    · have han : a < nt := by
        rcases hf.2.1 with z | z
        · exact z
        · omega
      exact ⟨lc_co true q R nt a, lc_it_cl han (by simp) (fun r hr => (hG.2.2 r hr).1), lc_it_sub (by simp) nt, hc hb han⟩
    · refine lx_addRule hG h24 (fun z => absurd hF z) (fun _ hR' => ?_) (fun l' a' hf' e0' e1' e2' e3' hR' ha' hc' => ?_) (fun l' a' b' c' hf' e0' e1' e2' e3' hR' hc' => ?_)
      · omega
      · exfalso
        obtain ⟨q1', q2', q3', q4'⟩ := lc_fm_16 h8 t8 hf'
        have hb16 : b = 16 := (lc_cd_e q3).mp (e2.symm.trans e2')
        have hl : l' = l := (nI_eq (by omega) (by omega)).mp (e0'.symm.trans e0)
        have ha2 : a' = a := (nI_eq (by omega) (by omega)).mp (e1'.symm.trans e1)
        subst hl ha2
        have := hc hb16 ha'
        rw [hc'] at this
        exact absurd this (by decide)
      · obtain ⟨q1', q2', q3', q4'⟩ := lc_fm_16 h8 t8 hf'
        have hl : l' = l := (nI_eq (by omega) (by omega)).mp (e0'.symm.trans e0)
        have ha2 : a' = a := (nI_eq (by omega) (by omega)).mp (e1'.symm.trans e1)
        have hb2 : b' = b := lc_cd_i q3' q3 (e2'.symm.trans e2)
        have hc2 : c' = c := lc_cd_i q4' q4 (e3'.symm.trans e3)
        subst hl ha2 hb2 hc2
        exact hb _ _ _ _
theorem lz_tokA {post : Int32 → St2 → Prop} {j : Nat} (hj : j < tm) (t8 : tm ≤ 8) (hn : n < 12) (h : post (nI (n + 1)) ((nI nt), (nI tm), (nI R), (nI (n + 1)), 0, xC, (-1), 0, xL, (lc_rc q), (upd w n (nI j)), ul, (lc_tr t), wy, oR, oS, oE, oD, gR, gP, gS, gE, gK, gD)) : wpX_addToken post ((nI nt), (nI tm), (nI R), (nI n), xP, xC, xK, xM, xL, (lc_rc q), w, ul, (lc_tr t), wy, oR, oS, oE, oD, gR, gP, gS, gE, gK, gD) (nI j) := by
  unfold wpX_addToken
  refine br_f (nI_pos (by omega)) (br_t (nI_lt hj (by omega)) (br_t (nI_lt (b := 12) hn (by decide)) ⟨vp_in_nI hn (by omega), ?_⟩))
  rw [nI_clamp (by omega)]
  exact nm_e (nm_r (nI_1 n) h)
variable {post : Int32 → Prop} {L : Nat} {xs : Nat → Int32} {kc ks : Nat}
theorem lz_301 {nT : Nat} (hp1 : post 1) (hL : L ≤ 260) (hG : lc_G nt tm R q) (h24 : R ≤ 24) (h1 : 1 ≤ nt) (t1 : 1 ≤ tm) (hA : lc_A R q rk) (hk : ∀ x, x < nt → rk x < nt) (ht : ∀ j, t j ≤ 1000000) (htb : ∀ j, tb j ≤ 1000000) (hT : nT ≤ 12) :
    ∀ D n i (w : Nat → Int32) (xP xC xK xM xL : Int32) (ul wy oR oS oE oD gR gP gS gE gK gD : Nat → Int32) (xPb xCb xKb xMb xLb : Int32) (ulb wyb oRb oSb oEb oDb gRb gPb gSb gEb gKb gDb : Nat → Int32), n + D = nT → i + D < 900 → wL_law_301 post L xs (nI tm) (nI nT) kc ks (D + 1) (nI i) (nI n) (nI nt) (nI tm) (nI R) (nI n) xP xC xK xM xL (lc_rc q) w ul (lc_tr t) wy oR oS oE oD gR gP gS gE gK gD (nI nt) (nI tm) (nI R) (nI n) xPb xCb xKb xMb xLb (lc_rc q) w ulb (lc_tr tb) wyb oRb oSb oEb oDb gRb gPb gSb gEb gKb gDb := by
  intro D
  induction D with
  | zero =>
    intro n i w xP xC xK xM xL ul wy oR oS oE oD gR gP gS gE gK gD xPb xCb xKb xMb xLb ulb wyb oRb oSb oEb oDb gRb gPb gSb gEb gKb gDb hD hi
    obtain rfl : n = nT := by omega
    rw [wL_law_301]
    refine br_t (nI_le (Nat.le_refl _) (by omega)) ?_
    refine lx_parse hG h24 h1 hT hA hk ht (fun ul' wy' t' ht' hS' => ?_)
    refine lx_parse hG h24 h1 hT hA hk htb (fun ulb' wyb' tb' htb' hSb' => ?_)
    have hag : lc_ag nt n t' tb' := lc_uq hG hA hS' hSb'
    have er : lc_rt tb' n = lc_rt t' n := by
      unfold lc_rt
      by_cases z : n = 0
      · rw [if_pos z, if_pos z]
      · rw [if_neg z, if_neg z]
        exact (hag 0 0 n (by omega) (by omega) (Nat.le_refl _)).symm
    have hc := lc_rt_le (n := n) ht'
    refine lc_if (lc_0le (by omega)) (fun _ => hp1) (fun z => ?_)
    refine pk_lt (lc_rt t' n) 1000000 (fun hC => ?_) (fun _ => hp1)
    unfold wpX_count
    refine br_f (by decide) (br_t rfl ⟨53, ?_⟩)
    rw [er]
    exact lz_384 hp1 hG hA hk hS' hSb' hag ht' htb' h24 h1 hT rfl er.symm hC 52 0 _ _ _ _ _ _ _ _ _ _ _ _ _ _ _ _ _ _ _ _ _ _ _ _ _ _ _ _ (by omega)
  | succ D ih =>
    intro n i w xP xC xK xM xL ul wy oR oS oE oD gR gP gS gE gK gD xPb xCb xKb xMb xLb ulb wyb oRb oSb oEb oDb gRb gPb gSb gEb gKb gDb hD hi
    rw [wL_law_301]
    refine br_f (nI_ge (by omega) (by omega)) (nm_r (nI_1 i) ?_)
    obtain ⟨c1, hc1⟩ := lz_cell (xs := xs) (i := i) hL (by omega)
    refine hc1 _ ?_
    obtain ⟨j, hj, hjn⟩ := lz_nn c1 (M := tm) (by omega) (by have := hG.2.1; omega)
    refine hjn _ ?_
    refine lz_tokA hj hG.2.1 (by omega) ?_
    refine lz_tokA hj hG.2.1 (by omega) (nm_r (nI_1 n) ?_)
    exact ih (n + 1) (i + 1) _ _ _ _ _ _ _ _ _ _ _ _ _ _ _ _ _ _ _ _ _ _ _ _ _ _ _ _ _ _ _ _ _ _ _ (by omega) (by omega)
theorem lz_144 {rn : Nat} (hp1 : post 1) (hL : L ≤ 260) (h1 : 1 ≤ nt) (t1 : 1 ≤ tm) (ht : ∀ j, t j ≤ 1000000) (htb : ∀ j, tb j ≤ 1000000) (hrn : rn ≤ 100) :
    ∀ D j i R (q : Nat → Nat → Nat) (xP xC xK xM xL : Int32) (ul wy oR oS oE oD gR gP gS gE gK gD : Nat → Int32) (xPb xCb xKb xMb xLb : Int32) (ulb wyb oRb oSb oEb oDb gRb gPb gSb gEb gKb gDb : Nat → Int32), j + D = rn → i + 5 * D ≤ 800 → lc_G nt tm R q → R ≤ 24 → (∃ rk, lc_A R q rk) → wL_law_144 post L xs (nI nt) (nI tm) (nI rn) kc ks (D + 1) (nI i) (nI j) (nI nt) (nI tm) (nI R) (nI 0) xP xC xK xM xL (lc_rc q) w ul (lc_tr t) wy oR oS oE oD gR gP gS gE gK gD (nI nt) (nI tm) (nI R) (nI 0) xPb xCb xKb xMb xLb (lc_rc q) w ulb (lc_tr tb) wyb oRb oSb oEb oDb gRb gPb gSb gEb gKb gDb := by
  intro D
  induction D with
  | zero =>
    intro j i R q xP xC xK xM xL ul wy oR oS oE oD gR gP gS gE gK gD xPb xCb xKb xMb xLb ulb wyb oRb oSb oEb oDb gRb gPb gSb gEb gKb gDb hD hi hG h24 hA
    obtain rfl : j = rn := by omega
    obtain ⟨rk0, hA0⟩ := hA
    obtain ⟨rk, hA, hkr⟩ := lc_A_low hA0 (fun r hr => (hG.2.2 r hr).1) (fun r hr => lc_G_8 hG hr 1 (by omega))
    rw [wL_law_144]
    refine br_t (nI_le (Nat.le_refl _) (by omega)) (nm_r (nI_1 i) ?_)
    obtain ⟨c1, hc1⟩ := lz_cell (xs := xs) (i := i) hL (by omega)
    refine hc1 _ ?_
    obtain ⟨m, hm, hmn⟩ := lz_nn c1 (M := 6) (by omega) (by omega)
    refine hmn _ ?_
    have e1 : 1 + nI m = nI (1 + m) := nI_add 1 m
    refine nm_r e1 ⟨1 + m + 1, ?_⟩
    exact lz_301 hp1 hL hG h24 h1 t1 hA hkr ht htb (by omega) (1 + m) 0 (i + 1) w _ _ _ _ _ _ _ _ _ _ _ _ _ _ _ _ _ _ _ _ _ _ _ _ _ _ _ _ _ _ _ _ _ _ (by omega) (by omega)
  | succ D ih =>
    intro j i R q xP xC xK xM xL ul wy oR oS oE oD gR gP gS gE gK gD xPb xCb xKb xMb xLb ulb wyb oRb oSb oEb oDb gRb gPb gSb gEb gKb gDb hD hi hG h24 hA
    rw [wL_law_144]
    refine br_f (nI_ge (by omega) (by omega)) ?_
    have h8 := hG.1
    have t8 := hG.2.1
    have a2 : nI i + 2 = nI (i + 2) := nI_add i 2
    have a3 : nI i + 3 = nI (i + 3) := nI_add i 3
    have a4 : nI i + 4 = nI (i + 4) := nI_add i 4
    have a5 : nI i + 5 = nI (i + 5) := nI_add i 5
    obtain ⟨c0, hc0⟩ := lz_cell (xs := xs) (i := i) hL (by omega)
    obtain ⟨c1, hc1⟩ := lz_cell (xs := xs) (i := i + 1) hL (by omega)
    obtain ⟨c2, hc2⟩ := lz_cell (xs := xs) (i := i + 2) hL (by omega)
    obtain ⟨c3, hc3⟩ := lz_cell (xs := xs) (i := i + 3) hL (by omega)
    obtain ⟨c4, hc4⟩ := lz_cell (xs := xs) (i := i + 4) hL (by omega)
    obtain ⟨l0, hl0, hl0n⟩ := lz_nn c0 (M := nt) (by omega) (by omega)
    obtain ⟨l1, hl1, hl1n⟩ := lz_nn c1 (M := 3) (by omega) (by omega)
    obtain ⟨d2, -, hd2⟩ := lz_code c2 (a := nt) (b := tm) (by omega) h8 (by omega) t8
    obtain ⟨d3, -, hd3⟩ := lz_code c3 (a := nt) (b := tm) (by omega) h8 (by omega) t8
    obtain ⟨d4, -, hd4⟩ := lz_code c4 (a := nt) (b := tm) (by omega) h8 (by omega) t8
    have e1 : 1 + nI l1 = nI (1 + l1) := nI_add 1 l1
    have H : ∀ p2 p3 : Int32, wL_law_242 post L xs (wL_law_144 post L xs (nI nt) (nI tm) (nI rn) kc ks (D + 1)) (nI nt) (nI tm) (nI i) (nI rn) (nI j) (nI l0) (nI d2) p2 p3 kc ks (nI nt) (nI tm) (nI R) (nI 0) xP xC xK xM xL (lc_rc q) w ul (lc_tr t) wy oR oS oE oD gR gP gS gE gK gD (nI nt) (nI tm) (nI R) (nI 0) xPb xCb xKb xMb xLb (lc_rc q) w ulb (lc_tr tb) wyb oRb oSb oEb oDb gRb gPb gSb gEb gKb gDb := by
      intro p2 p3
      unfold wL_law_242
      refine nm_r a5 ?_
      refine lz_add2 (n := 0) hG h24 hA (fun R' q' r' xP' xK' xM' hG' h24' hA' hb => ?_)
      refine hb (fun rb xP2 xK2 xM2 => nm_r (nI_1 j) ?_)
      exact ih (j + 1) (i + 5) R' q' _ _ _ _ _ _ _ _ _ _ _ _ _ _ _ _ _ _ _ _ _ _ _ _ _ _ _ _ _ _ _ _ _ _ (by omega) (by omega) hG' h24' hA'
    have H2 : ∀ p2 : Int32, wL_law_217 post L xs (wL_law_144 post L xs (nI nt) (nI tm) (nI rn) kc ks (D + 1)) (nI nt) (nI tm) (nI i) (nI rn) (nI j) (nI l0) (nI (1 + l1)) (nI d2) p2 kc ks (nI nt) (nI tm) (nI R) (nI 0) xP xC xK xM xL (lc_rc q) w ul (lc_tr t) wy oR oS oE oD gR gP gS gE gK gD (nI nt) (nI tm) (nI R) (nI 0) xPb xCb xKb xMb xLb (lc_rc q) w ulb (lc_tr tb) wyb oRb oSb oEb oDb gRb gPb gSb gEb gKb gDb := by
      intro p2
      unfold wL_law_217
      refine br_c (fun _ => ?_) (fun _ => H _ _)
      rw [a4]
      exact hc4 _ (hd4 _ (H _ _))
    refine hc0 _ (hl0n _ ?_)
    rw [nI_1]
    refine hc1 _ (hl1n _ (nm_r e1 ?_))
    rw [a2]
    refine hc2 _ (hd2 _ ?_)
    refine br_c (fun _ => H2 _) (fun _ => ?_)
    rw [a3]
    exact hc3 _ (hd3 _ (H2 _))
variable {xPb xCb xKb xMb xLb : Int32} {ulb wyb oRb oSb oEb oDb gRb gPb gSb gEb gKb gDb : Nat → Int32}
theorem lz_125 {i : Nat} (hp1 : post 1) (hL : L ≤ 260) (h1 : 1 ≤ nt) (t1 : 1 ≤ tm) (ht : ∀ j, t j ≤ 1000000) (htb : ∀ j, tb j ≤ 1000000) (hi : i ≤ 100) (hG : lc_G nt tm R q) (h24 : R ≤ 24) (hA : ∃ rk, lc_A R q rk) : wL_law_125 post L xs (nI nt) (nI tm) (nI i) kc ks (nI nt) (nI tm) (nI R) (nI 0) xP xC xK xM xL (lc_rc q) w ul (lc_tr t) wy oR oS oE oD gR gP gS gE gK gD (nI nt) (nI tm) (nI R) (nI 0) xPb xCb xKb xMb xLb (lc_rc q) w ulb (lc_tr tb) wyb oRb oSb oEb oDb gRb gPb gSb gEb gKb gDb := by
  unfold wL_law_125
  refine nm_r (nI_1 i) ?_
  obtain ⟨c1, hc1⟩ := lz_cell (xs := xs) (i := i) hL (by omega)
  refine hc1 _ ?_
  obtain ⟨m, hm, hmn⟩ := lz_nn c1 (M := 9) (by omega) (by omega)
  refine hmn _ ⟨m + 1, ?_⟩
  exact lz_144 hp1 hL h1 t1 ht htb (by omega) m 0 (i + 1) R q _ _ _ _ _ _ _ _ _ _ _ _ _ _ _ _ _ _ _ _ _ _ _ _ _ _ _ _ _ _ _ _ _ _ (by omega) (by omega) hG h24 hA
theorem lz_86 {i : Nat} (hp1 : post 1) (hL : L ≤ 260) (h1 : 1 ≤ nt) (t1 : 1 ≤ tm) (ht : ∀ j, t j ≤ 1000000) (htb : ∀ j, tb j ≤ 1000000) (hi : i ≤ 100) :
    ∀ D j R (q : Nat → Nat → Nat) (xP xC xK xM xL : Int32) (ul wy oR oS oE oD gR gP gS gE gK gD : Nat → Int32) (xPb xCb xKb xMb xLb : Int32) (ulb wyb oRb oSb oEb oDb gRb gPb gSb gEb gKb gDb : Nat → Int32), j + D = tm → lc_G nt tm R q → R ≤ 24 → (∃ rk, lc_A R q rk) → wL_law_86 post L xs (nI nt) (nI tm) (nI i) kc ks (D + 1) (nI j) (nI nt) (nI tm) (nI R) (nI 0) xP xC xK xM xL (lc_rc q) w ul (lc_tr t) wy oR oS oE oD gR gP gS gE gK gD (nI nt) (nI tm) (nI R) (nI 0) xPb xCb xKb xMb xLb (lc_rc q) w ulb (lc_tr tb) wyb oRb oSb oEb oDb gRb gPb gSb gEb gKb gDb := by
  intro D
  induction D with
  | zero =>
    intro j R q xP xC xK xM xL ul wy oR oS oE oD gR gP gS gE gK gD xPb xCb xKb xMb xLb ulb wyb oRb oSb oEb oDb gRb gPb gSb gEb gKb gDb hD hG h24 hA
    obtain rfl : j = tm := by omega
    have t8 := hG.2.1
    rw [wL_law_86]
    exact br_t (nI_le (Nat.le_refl _) (by omega)) (lz_125 hp1 hL h1 t1 ht htb hi hG h24 hA)
  | succ D ih =>
    intro j R q xP xC xK xM xL ul wy oR oS oE oD gR gP gS gE gK gD xPb xCb xKb xMb xLb ulb wyb oRb oSb oEb oDb gRb gPb gSb gEb gKb gDb hD hG h24 hA
    have t8 := hG.2.1
    rw [wL_law_86]
    refine br_f (nI_ge (by omega) (by omega)) ?_
    refine lz_add2 (n := 0) hG h24 hA (fun R' q' r' xP' xK' xM' hG' h24' hA' hb => ?_)
    refine hb (fun rb xP2 xK2 xM2 => nm_r (nI_1 j) ?_)
    exact ih (j + 1) R' q' _ _ _ _ _ _ _ _ _ _ _ _ _ _ _ _ _ _ _ _ _ _ _ _ _ _ _ _ _ _ _ _ _ _ (by omega) hG' h24' hA'
end LPF
