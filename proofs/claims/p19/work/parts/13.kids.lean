section LPD
variable {q : Nat → Nat → Nat} {w : Nat → Int32} {t tb : Nat → Nat} {nt tm R n : Nat} {rk : Nat → Nat}
variable {xP xC xK xM xL : Int32} {ul wy oR oS oE oD gR gP gS gE gK gD : Nat → Int32}
variable {xPb xCb xKb xMb xLb : Int32} {ulb wyb oRb oSb oEb oDb gRb gPb gSb gEb gKb gDb : Nat → Int32}
variable {post : Int32 → Prop} {L : Nat} {xs : Nat → Int32} {J : lc_JL} {J5 : Int32 → Prop} {x7 x8 x9 x10 : Int32} {kc ks u r d e : Nat} {La : List lc_N}
/-! the children of a node -/
theorem lz_767 {J6 : Int32 → Int32 → Int32 → Prop} {x12 x13 x15 x16 : Int32} {pos : Nat} {Bl : List lc_N} (hM : La.length ≤ 196) (hna : lc_nd oR oS oE oD La) (hva : ∀ v ∈ La, lc_nv R n v) (hd : d < 256) (hB : Bl = [] ∨ ∃ v l, Bl = v :: l ∧ v.2.2.2 ≤ d + 1) :
    ∀ (A : List lc_N) q0, La.drop q0 = A ++ Bl → q0 ≤ La.length → (∀ v ∈ A, d + 1 < v.2.2.2) → J6 x15 (nI (q0 + A.length)) (nI (pos + 1)) → wL_law_767 post L xs J J5 J6 x7 x8 x9 x10 (nI La.length) x12 x13 (nI d) x15 x16 (nI pos) kc ks (nI nt) (nI tm) (nI R) (nI n) xP xC xK (nI La.length) xL (lc_rc q) w ul (lc_tr t) wy oR oS oE oD gR gP gS gE gK gD (nI nt) (nI tm) (nI R) (nI n) xPb xCb xKb xMb xLb (lc_rc q) w ulb (lc_tr tb) wyb oRb oSb oEb oDb gRb gPb gSb gEb gKb gDb (A.length + 1) (nI q0) := by
  intro A
  induction A with
  | nil =>
    intro q0 h1 hq h2 hJ
    rw [List.nil_append] at h1
    have hJ' : J6 x15 (nI q0) (nI (pos + 1)) := hJ
    rcases hB with rfl | ⟨v, l, rfl, hv⟩
    · have := lc_drn h1
      exact br_t (nI_le this (by omega)) (nm_r (nI_1 pos) hJ')
    · obtain ⟨a1, a2, a3⟩ := lc_dr0 h1
      refine br_f (nI_ge a2 (by omega)) ?_
      refine lz_nD hM hna a1 ?_
      exact br_t (by rw [nI_1]; exact nI_le hv (by omega)) (nm_r (nI_1 pos) hJ')
  | cons v A ih =>
    intro q0 h1 hq h2 hJ
    rw [List.cons_append] at h1
    obtain ⟨a1, a2, a3⟩ := lc_dr0 h1
    have hvd := h2 v List.mem_cons_self
    have hv4 := (hva v (lc_mem a1)).2.2.2
    have hJ' : J6 x15 (nI (q0 + (A.length + 1))) (nI (pos + 1)) := hJ
    rw [show q0 + (A.length + 1) = q0 + 1 + A.length by omega] at hJ'
    show wL_law_767 post L xs J J5 J6 x7 x8 x9 x10 (nI La.length) x12 x13 (nI d) x15 x16 (nI pos) kc ks (nI nt) (nI tm) (nI R) (nI n) xP xC xK (nI La.length) xL (lc_rc q) w ul (lc_tr t) wy oR oS oE oD gR gP gS gE gK gD (nI nt) (nI tm) (nI R) (nI n) xPb xCb xKb xMb xLb (lc_rc q) w ulb (lc_tr tb) wyb oRb oSb oEb oDb gRb gPb gSb gEb gKb gDb (A.length + 1 + 1) (nI q0)
    rw [wL_law_767]
    refine br_f (nI_ge a2 (by omega)) ?_
    refine lz_nD hM hna a1 ?_
    exact br_f (by rw [nI_1]; exact nI_ge hvd (by omega)) (nm_r (nI_1 q0) (ih (q0 + 1) a3 (by omega) (fun y hy => h2 y (List.mem_cons_of_mem _ hy)) hJ'))
theorem lz_799 {rest : List lc_E} {f q0 : Nat} (hM : La.length ≤ 196) (hna : lc_nd oR oS oE oD La) (hd : d < 256) (h1 : La.drop q0 = lc_run q w t R f rest) (hq : q0 ≤ La.length) (hr : ∀ y ∈ rest, y.2.2.2.2 ≤ d) (hJ : J5 (nI (u + 1))) : wL_law_799 post L xs J J5 x7 x8 x9 x10 (nI La.length) (nI u) (nI d) (nI e) (nI e) (nI q0) kc ks (nI nt) (nI tm) (nI R) (nI n) xP xC xK (nI La.length) xL (lc_rc q) w ul (lc_tr t) wy oR oS oE oD gR gP gS gE gK gD (nI nt) (nI tm) (nI R) (nI n) xPb xCb xKb xMb xLb (lc_rc q) w ulb (lc_tr tb) wyb oRb oSb oEb oDb gRb gPb gSb gEb gKb gDb := by
  unfold wL_law_799
  refine br_t rfl (pk_le La.length q0 (fun _ => nm_r (nI_1 u) hJ) (fun z => ?_))
  rcases lc_run_h (f := f) (q := q) (w := w) (t := t) (R := R) hr with h | ⟨v, l, h, hv⟩
  · rw [h] at h1
    have := lc_drn h1
    omega
  · rw [h] at h1
    obtain ⟨a1, a2, a3⟩ := lc_dr0 h1
    refine lz_nD hM hna a1 ?_
    exact br_t (nI_le hv (by omega)) (nm_r (nI_1 u) hJ)
theorem lz_fin {pos N : Nat} {x15 x17 : Int32} (h24 : R ≤ 24) (hr : r < R) (hpos : pos = 4 ∨ (pos ≤ 3 ∧ q r pos = 16)) (h : wL_law_799 post L xs J J5 x7 x8 x9 x10 (nI La.length) (nI u) (nI d) x15 (nI e) x17 kc ks (nI nt) (nI tm) (nI R) (nI n) xP xC xK (nI La.length) xL (lc_rc q) w ul (lc_tr t) wy oR oS oE oD gR gP gS gE gK gD (nI nt) (nI tm) (nI R) (nI n) xPb xCb xKb xMb xLb (lc_rc q) w ulb (lc_tr tb) wyb oRb oSb oEb oDb gRb gPb gSb gEb gKb gDb) : wL_law_631 post L xs J J5 x7 x8 x9 x10 (nI La.length) (nI u) (nI r) (nI d) (nI e) kc ks (nI nt) (nI tm) (nI R) (nI n) xP xC xK (nI La.length) xL (lc_rc q) w ul (lc_tr t) wy oR oS oE oD gR gP gS gE gK gD (nI nt) (nI tm) (nI R) (nI n) xPb xCb xKb xMb xLb (lc_rc q) w ulb (lc_tr tb) wyb oRb oSb oEb oDb gRb gPb gSb gEb gKb gDb (N + 1) x15 x17 (nI pos) := by
  rw [wL_law_631]
  rcases hpos with rfl | ⟨h3, h16⟩
  · exact br_t (by decide) h
  · refine br_f (nI_nlt (a := 3) (by omega) (by omega)) ?_
    refine lz_sym h24 hr h3 ?_
    rw [h16]
    exact br_t lc_cd_16 h
theorem lz_631 {rest : List lc_E} {f : Nat} (hG : lc_G nt tm R q) (hA : lc_A R q rk) (hk : ∀ x, x < nt → rk x < nt) (hS : lc_sat q w R nt n t) (h24 : R ≤ 24) (hn : n ≤ 12) (hM : La.length ≤ 196) (hna : lc_nd oR oS oE oD La) (hva : ∀ v ∈ La, lc_nv R n v) (hd : d < 256) (hev : lc_ev t nt n rest) (hre : ∀ y ∈ rest, y.2.2.2.2 ≤ d) (hJ : J5 (nI (u + 1))) :
    ∀ j p k q0 N, lc_vt q w t R n r j p e k → La.drop q0 = lc_run q w t R f (lc_kd q w t r (j + 1) p e k (d + 1) ++ rest) → lc_mu rk (lc_kd q w t r (j + 1) p e k (d + 1) ++ rest) ≤ f → q0 ≤ La.length → j + 2 ≤ N → wL_law_631 post L xs J J5 x7 x8 x9 x10 (nI La.length) (nI u) (nI r) (nI d) (nI e) kc ks (nI nt) (nI tm) (nI R) (nI n) xP xC xK (nI La.length) xL (lc_rc q) w ul (lc_tr t) wy oR oS oE oD gR gP gS gE gK gD (nI nt) (nI tm) (nI R) (nI n) xPb xCb xKb xMb xLb (lc_rc q) w ulb (lc_tr tb) wyb oRb oSb oEb oDb gRb gPb gSb gEb gKb gDb N (nI p) (nI q0) (nI (3 - j)) := by
  intro j
  induction j using Nat.strongRecOn with
  | ind j ihj =>
    intro p k q0 N hv h1 hmu hq hN
    obtain ⟨m1, m2, m3, m4⟩ := lc_m_ok hG hv
    have hv' := hv
    obtain ⟨hr, hj, hpe, hen, h16, -, -⟩ := hv'
    have hq16 := lc_G_r hG hr (3 - j) (by omega)
    have hmid := fun (y : (lc_m q w t r j p e k).1 < e) => lc_m_nx hG hv m1 y m3 m4
    have hch := fun (h8 : q r (3 - j) < 8) => lc_m_ch hG hv m1 m2 m3 m4 h8
    have hk1 := (lc_kd_ok (d := d + 1) hG hA hk j p e k hv).1
    have hkd := lc_kd_d (q := q) (w := w) (t := t) (r := r) (e := e) (d := d + 1) (j + 1) p k
    rw [lc_kd_s] at h1 hmu hk1 hkd
    rw [List.append_assoc] at h1 hmu
    generalize lc_m q w t r j p e k = pm at *
    obtain ⟨m, bm⟩ := pm
    dsimp only at *
    have hp0 := lc_mp (Nat.lt_of_le_of_lt (Nat.zero_le _) m3)
    obtain ⟨N1, rfl⟩ : ∃ N1, N = N1 + 1 := ⟨N - 1, by omega⟩
    have ep : nI (3 - j) + 1 = nI (3 - j + 1) := nI_1 _
    -- what follows this symbol
    have hX : ∀ q1, La.drop q1 = lc_run q w t R f ((if m < e then lc_kd q w t r j m e (bm % lc_w q w t r j m e) (d + 1) else []) ++ rest) → lc_mu rk ((if m < e then lc_kd q w t r j m e (bm % lc_w q w t r j m e) (d + 1) else []) ++ rest) ≤ f → q1 ≤ La.length → wL_law_631 post L xs J J5 x7 x8 x9 x10 (nI La.length) (nI u) (nI r) (nI d) (nI e) kc ks (nI nt) (nI tm) (nI R) (nI n) xP xC xK (nI La.length) xL (lc_rc q) w ul (lc_tr t) wy oR oS oE oD gR gP gS gE gK gD (nI nt) (nI tm) (nI R) (nI n) xPb xCb xKb xMb xLb (lc_rc q) w ulb (lc_tr tb) wyb oRb oSb oEb oDb gRb gPb gSb gEb gKb gDb N1 (nI m) (nI q1) (nI (3 - j + 1)) := by
      intro q1 g1 g2 g3
      by_cases y : m < e
      · rw [if_pos y] at g1 g2
        obtain ⟨j', rfl, hv1⟩ := hmid y
        have := ihj j' (by omega) m _ q1 N1 hv1 g1 g2 g3 (by omega)
        rw [show 3 - (j' + 1) + 1 = 3 - j' by omega]
        exact this
      · rw [if_neg y, List.nil_append] at g1 g2
        obtain rfl : m = e := by omega
        obtain ⟨N2, rfl⟩ : ∃ N2, N1 = N2 + 1 := ⟨N1 - 1, by omega⟩
        refine lz_fin h24 hr ?_ (lz_799 hM hna hd g1 g3 hre hJ)
        cases j with
        | zero => exact Or.inl rfl
        | succ j' =>
          refine Or.inr ⟨by omega, ?_⟩
          rw [show 3 - (j' + 1) + 1 = 3 - j' by omega]
          refine Decidable.byContradiction fun z => ?_
          have h0 := hp0.2
          rw [lc_w_z z] at h0
          omega
    have hXd : ∀ y ∈ ((if m < e then lc_kd q w t r j m e (bm % lc_w q w t r j m e) (d + 1) else []) ++ rest), y.2.2.2.2 ≤ d + 1 := by
      intro y hy
      rcases List.mem_append.mp hy with h | h
      · have := hkd y (List.mem_append.mpr (Or.inr h)); omega
      · have := hre y h; omega
    have hXe : lc_ev t nt n ((if m < e then lc_kd q w t r j m e (bm % lc_w q w t r j m e) (d + 1) else []) ++ rest) := by
      refine lc_ev_a ?_ hev
      by_cases h8 : q r (3 - j) < 8
      · have e2 : ∀ a c d', lc_k1 (q r (3 - j)) p a c d' = [(q r (3 - j), p, a, c, d')] := fun a c d' => if_pos h8
        rw [e2] at hk1
        exact hk1.2
      · have e2 : ∀ a c d', lc_k1 (q r (3 - j)) p a c d' = [] := fun a c d' => if_neg h8
        rw [e2] at hk1
        exact hk1
    generalize hXn : (if m < e then lc_kd q w t r j m e (bm % lc_w q w t r j m e) (d + 1) else []) ++ rest = X at *
    have e3 : lc_cd (q r (3 - j)) = nI (q r (3 - j)) := lc_cd_n h16
    rw [wL_law_631]
    refine br_f (nI_nlt (a := 3) (by omega) (by omega)) ?_
    refine lz_sym h24 hr (by omega) ?_
    rw [e3]
    refine br_f (lc_m1 (by omega)) ?_
    by_cases h8 : q r (3 - j) < 8
    · have e2 : ∀ a c d', lc_k1 (q r (3 - j)) p a c d' = [(q r (3 - j), p, a, c, d')] := fun a c d' => if_pos h8
      rw [e2, List.cons_append, List.nil_append] at h1 hmu
      have hc := hch h8
      obtain ⟨p1, p2⟩ := lc_pk_ok hG hS hc
      have hA1 : lc_ev t nt n ((q r (3 - j), p, m, bm / lc_w q w t r j m e, d + 1) :: X) := ⟨hc, hXe⟩
      have h2 := lc_mu_2 (rk := rk) hA1
      obtain ⟨o1, o2⟩ := lc_en_ok hG hA hk hS hA1
      obtain ⟨ok1, ok2⟩ := lc_en_ok (l := []) (d := d + 1) hG hA hk hS ⟨hc, True.intro⟩
      rw [List.append_nil] at ok1 ok2
      obtain ⟨g, rfl⟩ : ∃ g, f = g + 1 := ⟨f - 1, by omega⟩
      rw [lc_run_s] at h1
      obtain ⟨a1, a2, a3⟩ := lc_dr0 h1
      have hmX : lc_mu rk X ≤ g := by rw [lc_mu_a] at o2; omega
      have hsp := lc_run_ap hG hA hk hS g _ X ok1 hXe (by rw [lc_mu_a] at o2; omega)
      rw [hsp] at a3
      have hfu := lc_run_fu hG hA hk hS g (g + 1) X hXe hmX (by omega)
      refine br_t (nI_lt (b := 8) h8 (by decide)) (br_f (nI_ge a2 (by omega)) ?_)
      refine lz_nD hM hna a1 (br_t (nI_1 d).symm ?_)
      refine lz_nR hM hna a1 ?_
      refine lz_sym (p := 0) h24 p2.1 (by omega) ?_
      refine br_t (by rw [p1, e3]) ?_
      refine lz_nS hM hna a1 (br_t rfl ?_)
      refine lz_nE hM hna a1 (br_t (nI_lt (a := p) (b := m) m1 (by omega)) ?_)
      refine lz_nE hM hna a1 (nm_r (nI_1 q0) ⟨_, lz_767 hM hna hva hd (lc_run_h hXd) _ (q0 + 1) a3 (by omega) ?_ ?_⟩)
      · intro v hv
        have := lc_run_d _ _ (d + 2) (fun y hy => by rw [lc_kd_d _ _ _ y hy]; omega) v hv
        omega
      · refine hX _ ?_ (by omega) ?_
        · rw [← List.drop_drop, a3, List.drop_left, hfu]
        · have hl := congrArg List.length a3
          rw [List.length_drop, List.length_append] at hl
          omega
    · have e2 : ∀ a c d', lc_k1 (q r (3 - j)) p a c d' = [] := fun a c d' => if_neg h8
      rw [e2, List.nil_append] at h1 hmu
      have z1 := lc_m_te h8 hp0.1
      have hw : w p = nI (q r (3 - j) - 8) := by
        have h0 := hp0.1
        unfold lc_y at h0
        rw [if_neg h8] at h0
        split at h0
        · exact (by assumption : _ ∧ _).2
        · omega
      have es : nI (q r (3 - j)) - 8 = nI (q r (3 - j) - 8) := pk_sub (b := 8) (by omega)
      refine br_f (nI_nlt (b := 8) (by omega) (by omega)) (br_f (nI_ge hpe (by omega)) ?_)
      refine lz_tok hn (by omega) (br_t (by rw [hw, es]) (nm_r (nI_1 p) (nm_r ep ?_)))
      rw [← z1]
      exact hX q0 h1 hmu hq
end LPD
