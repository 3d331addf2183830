section LPE
variable {q : Nat → Nat → Nat} {w : Nat → Int32} {t tb : Nat → Nat} {nt tm R n : Nat} {rk : Nat → Nat}
/-! a tree's nodes -/
theorem lc_tr_mu (hk : ∀ x, x < nt → rk x < nt) (h8 : nt ≤ 8) (h1 : 1 ≤ nt) (hn : n ≤ 12) {k : Nat} : lc_mu rk [(0, 0, n, k, 0)] ≤ 196 := by
  have := hk 0 h1
  show 17 * (n - 0) - 15 + rk 0 + 0 ≤ 196
  omega
theorem lc_tr_v (hG : lc_G nt tm R q) (hA : lc_A R q rk) (hk : ∀ x, x < nt → rk x < nt) (hS : lc_sat q w R nt n t) (h1 : 1 ≤ nt) (hn : n ≤ 12) {k : Nat} (hv : lc_ve t nt n 0 0 n k) : ∀ v ∈ lc_tree q w t R n k, lc_nv R n v := by
  refine lc_run_v hG hA hk hS 256 _ ⟨hv, True.intro⟩ ?_
  intro y hy
  rw [List.mem_singleton] at hy
  subst hy
  have := lc_tr_mu (k := k) hk hG.1 h1 hn
  show 0 + _ ≤ 256
  omega
theorem lc_tr_0 (hG : lc_G nt tm R q) (hS : lc_sat q w R nt n t) {k : Nat} (hv : lc_ve t nt n 0 0 n k) : ∃ r l, lc_tree q w t R n k = (r, 0, n, 0) :: l ∧ r < R ∧ q r 0 = 0 ∧ ∃ f K, l = lc_run q w t R f K ∧ ∀ y ∈ K, y.2.2.2.2 = 1 := by
  obtain ⟨p1, p2⟩ := lc_pk_ok hG hS hv
  refine ⟨_, _, lc_run_s, p2.1, p1, _, _, rfl, ?_⟩
  intro y hy
  rcases List.mem_append.mp hy with h | h
  · exact lc_kd_d _ _ _ y h
  · cases h
theorem lc_tr_p (hG : lc_G nt tm R q) (hA : lc_A R q rk) (hk : ∀ x, x < nt → rk x < nt) (hS : lc_sat q w R nt n t) (h1 : 1 ≤ nt) (hn : n ≤ 12) {k : Nat} (hv : lc_ve t nt n 0 0 n k) : ∀ u, u < (lc_tree q w t R n k).length → ∃ x s e k' d rest f, lc_ev t nt n ((x, s, e, k', d) :: rest) ∧ lc_so ((x, s, e, k', d) :: rest) ∧ lc_mu rk ((x, s, e, k', d) :: rest) ≤ f + 1 ∧ (lc_tree q w t R n k).drop u = lc_run q w t R (f + 1) ((x, s, e, k', d) :: rest) :=
  lc_pos hG hA hk hS ⟨hv, True.intro⟩ ⟨(fun y hy => by cases hy), True.intro⟩ (Nat.le_trans (lc_tr_mu hk hG.1 h1 hn) (by omega))
theorem lc_tr_d (hG : lc_G nt tm R q) (hA : lc_A R q rk) (hk : ∀ x, x < nt → rk x < nt) (hS : lc_sat q w R nt n t) (h1 : 1 ≤ nt) (hn : n ≤ 12) {k : Nat} (hv : lc_ve t nt n 0 0 n k) {u : Nat} (hu : u + 1 < (lc_tree q w t R n k).length) : ∃ v v', (lc_tree q w t R n k)[u + 1]? = some v ∧ (lc_tree q w t R n k)[u]? = some v' ∧ 1 ≤ v.2.2.2 ∧ v.2.2.2 ≤ v'.2.2.2 + 1 := by
  obtain ⟨x, s, e, k', d, rest, f, h2, h3, h4, h5⟩ := lc_tr_p hG hA hk hS h1 hn hv u (by omega)
  rw [lc_run_s] at h5
  obtain ⟨a1, a2, a3⟩ := lc_dr0 h5
  have hh := lc_run_h (f := f) (q := q) (w := w) (t := t) (R := R) (δ := d + 1) (st := lc_kd q w t (lc_pk q w t R x s e k').1 3 s e (lc_pk q w t R x s e k').2 (d + 1) ++ rest) (by
    intro y hy
    rcases List.mem_append.mp hy with h | h
    · rw [lc_kd_d _ _ _ y h]; omega
    · have := h3.1 y h; omega)
  rcases hh with h | ⟨v, l, h, hvd⟩
  · rw [h] at a3
    have := lc_drn a3
    omega
  · rw [h] at a3
    obtain ⟨b1, b2, b3⟩ := lc_dr0 a3
    refine ⟨v, _, b1, a1, ?_, hvd⟩
    obtain ⟨r0, l0, e0, -, -, f1, K, el, hK⟩ := lc_tr_0 hG hS hv
    rw [e0] at b1
    have b1' : l0[u]? = some v := b1
    have hm := List.mem_of_getElem? b1'
    rw [el] at hm
    exact lc_run_d f1 K 1 (fun y hy => by rw [hK y hy]; omega) v hm
variable {xP xC xK xM xL : Int32} {ul wy oR oS oE oD gR gP gS gE gK gD : Nat → Int32}
variable {xPb xCb xKb xMb xLb : Int32} {ulb wyb oRb oSb oEb oDb gRb gPb gSb gEb gKb gDb : Nat → Int32}
variable {post : Int32 → Prop} {L : Nat} {xs : Nat → Int32} {J : lc_JL} {x7 x8 x9 x10 : Int32} {kc ks : Nat}
theorem lz_560 {k : Nat} (hG : lc_G nt tm R q) (hA : lc_A R q rk) (hk : ∀ x, x < nt → rk x < nt) (hS : lc_sat q w R nt n t) (h24 : R ≤ 24) (h1 : 1 ≤ nt) (hn : n ≤ 12) (hv : lc_ve t nt n 0 0 n k) (hM : (lc_tree q w t R n k).length ≤ 196) (hna : lc_nd oR oS oE oD (lc_tree q w t R n k))
    (hE : ∀ N, wL_law_560 post L xs J x7 x8 x9 x10 (nI (lc_tree q w t R n k).length) kc ks (nI nt) (nI tm) (nI R) (nI n) xP xC xK (nI (lc_tree q w t R n k).length) xL (lc_rc q) w ul (lc_tr t) wy oR oS oE oD gR gP gS gE gK gD (nI nt) (nI tm) (nI R) (nI n) xPb xCb xKb xMb xLb (lc_rc q) w ulb (lc_tr tb) wyb oRb oSb oEb oDb gRb gPb gSb gEb gKb gDb (N + 1) (nI (lc_tree q w t R n k).length)) :
    ∀ D u N, u + D = (lc_tree q w t R n k).length → D + 1 ≤ N → wL_law_560 post L xs J x7 x8 x9 x10 (nI (lc_tree q w t R n k).length) kc ks (nI nt) (nI tm) (nI R) (nI n) xP xC xK (nI (lc_tree q w t R n k).length) xL (lc_rc q) w ul (lc_tr t) wy oR oS oE oD gR gP gS gE gK gD (nI nt) (nI tm) (nI R) (nI n) xPb xCb xKb xMb xLb (lc_rc q) w ulb (lc_tr tb) wyb oRb oSb oEb oDb gRb gPb gSb gEb gKb gDb N (nI u) := by
  intro D
  induction D with
  | zero =>
    intro u N hu hN
    obtain ⟨N1, rfl⟩ : ∃ N1, N = N1 + 1 := ⟨N - 1, by omega⟩
    rw [Nat.add_zero] at hu
    rw [hu]
    exact hE N1
  | succ D ih =>
    intro u N hu hN
    obtain ⟨N1, rfl⟩ : ∃ N1, N = N1 + 1 := ⟨N - 1, by omega⟩
    have hva := lc_tr_v hG hA hk hS h1 hn hv
    obtain ⟨x, s, e, k', d, rest, f, g1, g2, g3, g4⟩ := lc_tr_p hG hA hk hS h1 hn hv u (by omega)
    rw [lc_run_s] at g4
    obtain ⟨a1, a2, a3⟩ := lc_dr0 g4
    obtain ⟨n1, n2, n3, n4⟩ := hva _ (lc_mem a1)
    obtain ⟨-, o2⟩ := lc_en_ok hG hA hk hS g1
    obtain ⟨p1, p2⟩ := lc_pk_ok hG hS g1.1
    have hse := g1.1.2.1
    have hen := g1.1.2.2.1
    have hd : d < 256 := n4
    rw [wL_law_560]
    refine br_f (nI_ge a2 (by omega)) ?_
    refine lz_nR hM hna a1 ?_
    refine lz_nD hM hna a1 ?_
    refine lz_nS hM hna a1 ?_
    refine lz_nE hM hna a1 (br_f (nI_pos (by omega)) ?_)
    unfold wpX_ruleCount
    refine br_f (nI_ge n1 (by omega)) (br_t (nI_lt (a := s) (b := e) hse (by omega)) (nm_r (nI_1 u) ⟨4, ?_⟩))
    exact lz_631 (rest := rest) (f := f) hG hA hk hS h24 hn hM hna hva hd g1.2 g2.1 (ih (u + 1) N1 (by omega) (by omega)) 2 s _ (u + 1) 4 p2 a3 (Nat.le_of_succ_le_succ (Nat.le_trans o2 g3)) (by omega) (by omega)
theorem lz_513 {k : Nat} (hG : lc_G nt tm R q) (hA : lc_A R q rk) (hk : ∀ x, x < nt → rk x < nt) (hS : lc_sat q w R nt n t) (h1 : 1 ≤ nt) (hn : n ≤ 12) (hv : lc_ve t nt n 0 0 n k) (hM : (lc_tree q w t R n k).length ≤ 196) (hna : lc_nd oR oS oE oD (lc_tree q w t R n k))
    (hE : wL_law_560 post L xs J x7 x8 x9 x10 (nI (lc_tree q w t R n k).length) kc ks (nI nt) (nI tm) (nI R) (nI n) xP xC xK (nI (lc_tree q w t R n k).length) xL (lc_rc q) w ul (lc_tr t) wy oR oS oE oD gR gP gS gE gK gD (nI nt) (nI tm) (nI R) (nI n) xPb xCb xKb xMb xLb (lc_rc q) w ulb (lc_tr tb) wyb oRb oSb oEb oDb gRb gPb gSb gEb gKb gDb 197 (nI 0)) :
    ∀ D u N, u + 1 + D = (lc_tree q w t R n k).length → D + 1 ≤ N → wL_law_513 post L xs J x7 x8 x9 x10 (nI (lc_tree q w t R n k).length) kc ks (nI nt) (nI tm) (nI R) (nI n) xP xC xK (nI (lc_tree q w t R n k).length) xL (lc_rc q) w ul (lc_tr t) wy oR oS oE oD gR gP gS gE gK gD (nI nt) (nI tm) (nI R) (nI n) xPb xCb xKb xMb xLb (lc_rc q) w ulb (lc_tr tb) wyb oRb oSb oEb oDb gRb gPb gSb gEb gKb gDb N (nI (u + 1)) := by
  intro D
  induction D with
  | zero =>
    intro u N hu hN
    obtain ⟨N1, rfl⟩ : ∃ N1, N = N1 + 1 := ⟨N - 1, by omega⟩
    rw [wL_law_513]
    exact br_t (nI_le (by omega) (by omega)) ⟨197, hE⟩
  | succ D ih =>
    intro u N hu hN
    obtain ⟨N1, rfl⟩ : ∃ N1, N = N1 + 1 := ⟨N - 1, by omega⟩
    obtain ⟨v, v', e1, e2, d1, d2⟩ := lc_tr_d (u := u) hG hA hk hS h1 hn hv (by omega)
    have hva := lc_tr_v hG hA hk hS h1 hn hv
    have hv4 := (hva v (lc_mem e1)).2.2.2
    have hv4' := (hva v' (lc_mem e2)).2.2.2
    rw [wL_law_513]
    refine br_f (nI_ge (by omega) (by omega)) ?_
    refine lz_nD hM hna e1 (br_f (nI_nlt (b := 1) d1 (by omega)) ?_)
    rw [nI_pred]
    refine lz_nD hM hna e2 ?_
    exact br_t (by rw [nI_1]; exact nI_le d2 (by omega)) (nm_r (nI_1 (u + 1)) (ih (u + 1) N1 (by omega) (by omega)))
theorem lz_end {c k j N : Nat} (hG : lc_G nt tm R q) (hA : lc_A R q rk) (hk : ∀ x, x < nt → rk x < nt) (hS : lc_sat q w R nt n t) (hSb : lc_sat q w R nt n tb) (hag : lc_ag nt n t tb) (htb : ∀ j, tb j ≤ 1000000) (h24 : R ≤ 24) (h1 : 1 ≤ nt) (hn : n ≤ 12) (hc : c = lc_rt t n) (hcb : c = lc_rt tb n) (hC : c < 1000000) (hkc : k < c) (hM : (lc_tree q w t R n k).length ≤ 196) (hna : lc_nd oR oS oE oD (lc_tree q w t R n k))
    (hJ : ∀ (xKb xMb xLb : Int32) (wyb oRb oSb oEb oDb gRb gPb gSb gEb gKb gDb : Nat → Int32), J (nI (j + 1)) (nI nt) (nI tm) (nI R) (nI n) xP xC xK (nI (lc_tree q w t R n k).length) xL (lc_rc q) w ul (lc_tr t) wy oR oS oE oD gR gP gS gE gK gD (nI nt) (nI tm) (nI R) (nI n) 1 (nI c) xKb xMb xLb (lc_rc q) w ulb (lc_tr tb) wyb oRb oSb oEb oDb gRb gPb gSb gEb gKb gDb) :
    wL_law_560 post L xs J x7 x8 (nI j) (nI k) (nI (lc_tree q w t R n k).length) kc ks (nI nt) (nI tm) (nI R) (nI n) xP xC xK (nI (lc_tree q w t R n k).length) xL (lc_rc q) w ul (lc_tr t) wy oR oS oE oD gR gP gS gE gK gD (nI nt) (nI tm) (nI R) (nI n) 1 (nI c) xKb xMb xLb (lc_rc q) w ulb (lc_tr tb) wyb oRb oSb oEb oDb gRb gPb gSb gEb gKb gDb (N + 1) (nI (lc_tree q w t R n k).length) := by
  rw [wL_law_560]
  refine br_t (nI_le (Nat.le_refl _) (by omega)) ?_
  refine lc_if (lc_0le (by omega)) (fun z => nm_r (nI_1 j) (hJ _ _ _ _ _ _ _ _ _ _ _ _ _ _)) (fun z => ?_)
  obtain ⟨k1, rfl⟩ : ∃ k1, k = k1 + 1 := ⟨k - 1, by omega⟩
  rw [nI_pred]
  have hv := lc_root h1 hc hC hkc
  have hv1 := lc_root (k := k1) h1 hc hC (by omega)
  have hv1b := lc_root (k := k1) h1 hcb hC (by omega)
  have eT : lc_tree q w tb R n k1 = lc_tree q w t R n k1 := (lc_run_ag hG hA hk hS hag 256 [(0, 0, n, k1, 0)] ⟨hv1, True.intro⟩).symm
  refine lx_select hG h24 h1 hn htb hSb hA hk hcb hC (by omega) (fun xL' wy' oR' oS' oE' oD' gR' gP' gS' gE' gK' gD' hnd hlen => ?_)
  rw [eT] at hnd hlen ⊢
  have hva := lc_tr_v hG hA hk hS h1 hn hv
  have hvb := lc_tr_v hG hA hk hS h1 hn hv1
  have hmu := lc_tr_mu (rk := rk) (k := k1) hk hG.1 h1 hn
  have hmu2 := lc_tr_mu (rk := rk) (k := k1 + 1) hk hG.1 h1 hn
  have hlx : lc_lx (lc_tree q w t R n k1) (lc_tree q w t R n (k1 + 1)) := lc_lx_e hG hA hk hS _ 0 0 n k1 (k1 + 1) 0 [] [] 256 256 (Nat.le_refl _) (by omega) ⟨hv1, True.intro⟩ ⟨hv, True.intro⟩ (by omega) (by omega)
  obtain ⟨r0, l0, e0, -, -, -⟩ := lc_tr_0 hG hS hv1
  have hpos : 1 ≤ (lc_tree q w t R n k1).length := by rw [e0]; exact Nat.succ_pos _
  refine br_f (nI_nlt (b := 1) hpos (by omega)) ?_
  unfold wpX_selectedRank
  refine br_t rfl ?_
  have hJ' := hJ (nI k1) (nI (lc_tree q w t R n k1).length) xL' wy' oR' oS' oE' oD' gR' gP' gS' gE' gK' gD'
  refine pk_le (lc_tree q w t R n (k1 + 1)).length (lc_tree q w t R n k1).length (fun y => ⟨(lc_tree q w t R n k1).length + 2, ?_⟩) (fun y => ⟨(lc_tree q w t R n k1).length + 2, ?_⟩)
  · exact lz_892 h24 hn hM hlen hna hnd hva hvb (fun i a b => a) hM hJ' _ _ 0 _ rfl rfl hlx (Nat.le_refl _)
  · exact lz_892 h24 hn hM hlen hna hnd hva hvb (fun i a b => b) hlen hJ' _ _ 0 _ rfl rfl hlx (Nat.le_refl _)
theorem lz_411 {c j : Nat} {z0 : Int32} (hp1 : post 1) (hG : lc_G nt tm R q) (hA : lc_A R q rk) (hk : ∀ x, x < nt → rk x < nt) (hS : lc_sat q w R nt n t) (hSb : lc_sat q w R nt n tb) (hag : lc_ag nt n t tb) (ht : ∀ j, t j ≤ 1000000) (htb : ∀ j, tb j ≤ 1000000) (h24 : R ≤ 24) (h1 : 1 ≤ nt) (hn : n ≤ 12) (hc : c = lc_rt t n) (hcb : c = lc_rt tb n) (hC : c < 1000000)
    (hJ : ∀ (xK xM xL : Int32) (wy oR oS oE oD gR gP gS gE gK gD : Nat → Int32) (xKb xMb xLb : Int32) (wyb oRb oSb oEb oDb gRb gPb gSb gEb gKb gDb : Nat → Int32), J (nI (j + 1)) (nI nt) (nI tm) (nI R) (nI n) 1 (nI c) xK xM xL (lc_rc q) w ul (lc_tr t) wy oR oS oE oD gR gP gS gE gK gD (nI nt) (nI tm) (nI R) (nI n) 1 (nI c) xKb xMb xLb (lc_rc q) w ulb (lc_tr tb) wyb oRb oSb oEb oDb gRb gPb gSb gEb gKb gDb) :
    wL_law_411 post L xs J (nI n) (nI c) (nI j) z0 kc ks (nI nt) (nI tm) (nI R) (nI n) 1 (nI c) xK xM xL (lc_rc q) w ul (lc_tr t) wy oR oS oE oD gR gP gS gE gK gD (nI nt) (nI tm) (nI R) (nI n) 1 (nI c) xKb xMb xLb (lc_rc q) w ulb (lc_tr tb) wyb oRb oSb oEb oDb gRb gPb gSb gEb gKb gDb := by
  unfold wL_law_411
  refine br_c (fun _ => nm_r (nI_1 j) (hJ _ _ _ _ _ _ _ _ _ _ _ _ _ _ _ _ _ _ _ _ _ _ _ _ _ _ _ _)) (fun h0 => ?_)
  refine br_c (fun h2 => ?_) (fun _ => nm_r (nI_1 j) (hJ _ _ _ _ _ _ _ _ _ _ _ _ _ _ _ _ _ _ _ _ _ _ _ _ _ _ _ _))
  obtain ⟨k, hk31, rfl⟩ := nI_of h0
  have hkc : k < c := (nI_ltI hk31 (by omega)).mp h2
  have hv := lc_root h1 hc hC hkc
  refine lx_select hG h24 h1 hn ht hS hA hk hc hC hkc (fun xL' wy' oR' oS' oE' oD' gR' gP' gS' gE' gK' gD' hnd hlen => ?_)
  obtain ⟨r0, l0, e0, hr0, hq0, -⟩ := lc_tr_0 hG hS hv
  have hpos : 1 ≤ (lc_tree q w t R n k).length := by rw [e0]; exact Nat.succ_pos _
  have a0 : (lc_tree q w t R n k)[0]? = some (r0, 0, n, 0) := by rw [e0]; rfl
  refine br_t (nI_le (a := 1) hpos (by omega)) ?_
  unfold wpX_selectedRank
  refine br_t rfl ?_
  refine lz_nD (i := 0) hlen hnd a0 (br_t rfl ?_)
  refine lz_nS (i := 0) hlen hnd a0 (br_t rfl ?_)
  refine lz_nE (i := 0) hlen hnd a0 (br_t rfl ?_)
  refine lz_nR (i := 0) hlen hnd a0 ?_
  refine lz_sym (p := 0) h24 hr0 (by omega) ?_
  rw [hq0]
  refine br_t (by decide) ?_
  refine lz_nR0 hlen (br_t rfl ⟨196, ?_⟩)
  refine lz_513 hG hA hk hS h1 hn hv hlen hnd ?_ ((lc_tree q w t R n k).length - 1) 0 196 (by omega) (by omega)
  refine lz_560 hG hA hk hS h24 h1 hn hv hlen hnd (fun N => ?_) (lc_tree q w t R n k).length 0 197 (by omega) (by omega)
  exact lz_end hG hA hk hS hSb hag htb h24 h1 hn hc hcb hC hkc hlen hnd (fun xKb xMb xLb wyb oRb oSb oEb oDb gRb gPb gSb gEb gKb gDb => hJ _ _ _ _ _ _ _ _ _ _ _ _ _ _ _ _ _ _ _ _ _ _ _ _ _ _ _ _)
theorem lz_384 {c : Nat} (hp1 : post 1) (hG : lc_G nt tm R q) (hA : lc_A R q rk) (hk : ∀ x, x < nt → rk x < nt) (hS : lc_sat q w R nt n t) (hSb : lc_sat q w R nt n tb) (hag : lc_ag nt n t tb) (ht : ∀ j, t j ≤ 1000000) (htb : ∀ j, tb j ≤ 1000000) (h24 : R ≤ 24) (h1 : 1 ≤ nt) (hn : n ≤ 12) (hc : c = lc_rt t n) (hcb : c = lc_rt tb n) (hC : c < 1000000) :
    ∀ D j (xK xM xL : Int32) (wy oR oS oE oD gR gP gS gE gK gD : Nat → Int32) (xKb xMb xLb : Int32) (wyb oRb oSb oEb oDb gRb gPb gSb gEb gKb gDb : Nat → Int32), j + D = 52 → wL_law_384 post L xs (nI n) (nI c) kc ks (D + 1) (nI j) (nI nt) (nI tm) (nI R) (nI n) 1 (nI c) xK xM xL (lc_rc q) w ul (lc_tr t) wy oR oS oE oD gR gP gS gE gK gD (nI nt) (nI tm) (nI R) (nI n) 1 (nI c) xKb xMb xLb (lc_rc q) w ulb (lc_tr tb) wyb oRb oSb oEb oDb gRb gPb gSb gEb gKb gDb := by
  intro D
  induction D with
  | zero =>
    intro j xK xM xL wy oR oS oE oD gR gP gS gE gK gD xKb xMb xLb wyb oRb oSb oEb oDb gRb gPb gSb gEb gKb gDb hj
    obtain rfl : j = 52 := by omega
    exact br_t (by decide) hp1
  | succ D ih =>
    intro j xK xM xL wy oR oS oE oD gR gP gS gE gK gD xKb xMb xLb wyb oRb oSb oEb oDb gRb gPb gSb gEb gKb gDb hj
    rw [wL_law_384]
    refine br_f (nI_ge (b := 52) (by omega) (by decide)) (br_c (fun _ => ?_) (fun _ => ?_))
    · exact lz_411 hp1 hG hA hk hS hSb hag ht htb h24 h1 hn hc hcb hC (fun xK xM xL wy oR oS oE oD gR gP gS gE gK gD xKb xMb xLb wyb oRb oSb oEb oDb gRb gPb gSb gEb gKb gDb => ih (j + 1) _ _ _ _ _ _ _ _ _ _ _ _ _ _ _ _ _ _ _ _ _ _ _ _ _ _ _ _ (by omega))
    · exact lz_411 hp1 hG hA hk hS hSb hag ht htb h24 h1 hn hc hcb hC (fun xK xM xL wy oR oS oE oD gR gP gS gE gK gD xKb xMb xLb wyb oRb oSb oEb oDb gRb gPb gSb gEb gKb gDb => ih (j + 1) _ _ _ _ _ _ _ _ _ _ _ _ _ _ _ _ _ _ _ _ _ _ _ _ _ _ _ _ (by omega))
end LPE
