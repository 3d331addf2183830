section LXC
variable {q : Nat → Nat → Nat} {w : Nat → Int32} {t : Nat → Nat} {nt tm R n : Nat} {rk : Nat → Nat}
/-- the cells that are right: shorter spans, spans of this length that begin earlier, and in this span those of lower rank or, at rank L, below x -/
def lc_D (q : Nat → Nat → Nat) (w : Nat → Int32) (R nt n : Nat) (rk : Nat → Nat) (s e L x : Nat) (t : Nat → Nat) : Prop := ∀ x' s' e', x' < nt → s' < e' → e' ≤ n → (e' - s' < e - s ∨ (e' - s' = e - s ∧ s' < s) ∨ (s' = s ∧ e' = e ∧ (rk x' < L ∨ (rk x' = L ∧ x' < x)))) → lc_ok q w R t x' s' e'
theorem lc_D_w (hG : lc_G nt tm R q) (hA : lc_A R q rk) (hn : n ≤ 12) {s e L x : Nat} (hx : x < nt) (hs : s < e) (he : e ≤ n) (h : lc_D q w R nt n rk s e L x t) (hL : L ≤ rk x ∨ lc_ok q w R t x s e) : lc_D q w R nt n rk s e L (x + 1) (lc_up t (lc_ix x s e) (lc_n q w t R x s e)) := by
  by_cases hr : lc_ok q w R t x s e
  · rw [lc_ok_s hr]
    intro x' s' e' h1 h2 h3 h4
    by_cases z : x' = x ∧ s' = s ∧ e' = e
    · obtain ⟨rfl, rfl, rfl⟩ := z; exact hr
    · exact h x' s' e' h1 h2 h3 (by omega)
  · have hL' : L ≤ rk x := by
      rcases hL with z | z
      · exact z
      · exact absurd z hr
    intro x' s' e' h1 h2 h3 h4
    by_cases z : x' = x ∧ s' = s ∧ e' = e
    · obtain ⟨rfl, rfl, rfl⟩ := z
      exact lc_ok_w hG hA (by omega) hs
    · refine lc_ok_k hG hA (by omega) hs (by omega) h2 (by omega) ?_ (h x' s' e' h1 h2 h3 (by omega))
      intro z1 z2
      have z3 : x' ≠ x := fun y => z ⟨y, z1, z2⟩
      refine ⟨?_, z3⟩
      omega
theorem lc_D_s {s e L x : Nat} (h : lc_D q w R nt n rk s e L x t) (hx : rk x ≠ L) : lc_D q w R nt n rk s e L (x + 1) t := by
  intro x' s' e' h1 h2 h3 h4
  refine h x' s' e' h1 h2 h3 ?_
  rcases h4 with z | z | ⟨z1, z2, z3 | ⟨z3, z4⟩⟩
  · exact Or.inl z
  · exact Or.inr (Or.inl z)
  · exact Or.inr (Or.inr ⟨z1, z2, Or.inl z3⟩)
  · refine Or.inr (Or.inr ⟨z1, z2, Or.inr ⟨z3, ?_⟩⟩)
    refine Nat.lt_of_le_of_ne (Nat.le_of_lt_succ z4) ?_
    intro y; subst y; exact hx z3
theorem lc_D_L {s e L : Nat} (h : lc_D q w R nt n rk s e L nt t) : lc_D q w R nt n rk s e (L + 1) 0 t := by
  intro x' s' e' h1 h2 h3 h4
  exact h x' s' e' h1 h2 h3 (by omega)
theorem lc_D_e {s e : Nat} (hk : ∀ x, x < nt → rk x < nt) {L : Nat} (hL : nt ≤ L) (h : lc_D q w R nt n rk s e L 0 t) (hs : s ≤ e) : lc_D q w R nt n rk (s + 1) (e + 1) 0 0 t := by
  intro x' s' e' h1 h2 h3 h4
  have := hk x' h1
  exact h x' s' e' h1 h2 h3 (by omega)
theorem lc_D_r {s l : Nat} (hs : s + l = n + 1) (h : lc_D q w R nt n rk s (s + l) 0 0 t) : lc_D q w R nt n rk 0 (l + 1) 0 0 t := by
  intro x' s' e' h1 h2 h3 h4
  exact h x' s' e' h1 h2 h3 (by omega)
theorem lc_D_0 : lc_D q w R nt n rk 0 1 0 0 t := by
  intro x' s' e' h1 h2 h3 h4
  omega
theorem lc_D_sat (h : lc_D q w R nt n rk 0 (n + 1) 0 0 t) : lc_sat q w R nt n t := by
  intro x s e h1 h2 h3
  exact h x s e h1 h2 h3 (by omega)
theorem lc_up_le {k v : Nat} (ht : ∀ j, t j ≤ 1000000) (hv : v ≤ 1000000) : ∀ j, lc_up t k v j ≤ 1000000 := by
  intro j
  unfold lc_up
  split
  · exact hv
  · exact ht j
def lc_rt (t : Nat → Nat) (n : Nat) : Nat := if n = 0 then 0 else t (lc_ix 0 0 n)
theorem lc_rt_le (ht : ∀ j, t j ≤ 1000000) : lc_rt t n ≤ 1000000 := by
  unfold lc_rt
  split
  · omega
  · exact ht _
variable {xP xC xK xM xL : Int32} {ul wy oR oS oE oD gR gP gS gE gK gD : Nat → Int32}
theorem lx_sl35 {post : St2 → Prop} {J25 : Int32 → (Nat → Int32) → (Nat → Int32) → (Nat → Int32) → (Nat → Int32) → (Nat → Int32) → (Nat → Int32) → (Nat → Int32) → (Nat → Int32) → (Nat → Int32) → (Nat → Int32) → (Nat → Int32) → (Nat → Int32) → (Nat → Int32) → (Nat → Int32) → (Nat → Int32) → Prop} {k m : Nat} (hG : lc_G nt tm R q) (h24 : R ≤ 24) (hA : lc_A R q rk) (hk : ∀ x, x < nt → rk x < nt)
    (hJ : ∀ (ul' : Nat → Int32) (lv' : Nat → Nat), (∀ x, x < nt → ul' x = nI (lv' x)) → lc_lv R nt q k R lv' → J25 (nI (m + 1)) (lc_rc q) w ul' (lc_tr t) wy oR oS oE oD gR gP gS gE gK gD) :
    ∀ d i (ul : Nat → Int32) (lv : Nat → Nat), i + d = R → (∀ x, x < nt → ul x = nI (lv x)) → lc_lv R nt q k i lv → wX_setUnitLevels_35 post J25 (nI m) (nI nt) (nI tm) (nI R) (nI n) xP xC xK xM xL (d + 1) (nI i) (lc_rc q) w ul (lc_tr t) wy oR oS oE oD gR gP gS gE gK gD := by
  intro d
  induction d with
  | zero =>
    intro i ul lv hi hu hl
    obtain rfl : i = R := by omega
    exact br_t (nI_le (Nat.le_refl _) (by omega)) (nm_r (nI_1 m) (hJ ul lv hu hl))
  | succ d ih =>
    intro i ul lv hi hu hl
    have hr : i < R := by omega
    have h0 := (hG.2.2 i hr).1
    have h8 := hG.1
    rw [wX_setUnitLevels_35]
    refine br_f (nI_ge hr (by omega)) ?_
    refine lx_unit hG h24 hr (fun z1 z2 => ?_) (fun z => ?_)
    · have hq1 := lc_G_8 hG hr 1 (by omega) z1
      refine br_f (by decide) (nm_r (lc_x4 i) ?_)
      have e1 : nI (i * 4) + 1 = nI (i * 4 + 1) := nI_1 _
      have hb0 := lc_P_rk hA _ _ (hl.1 _ h0)
      have hb1 := lc_P_rk hA _ _ (hl.1 _ hq1)
      have hc0 := hk _ h0
      have hc1 := hk _ hq1
      rw [e1, nI_clamp (by omega), nI_clamp (by omega), lc_rc_p (by omega), lc_rc_0, lc_cd_n (c := q i 0) (by omega), lc_cd_n (c := q i 1) (by omega), nI_clamp (by omega), nI_clamp (by omega), hu _ h0, hu _ hq1]
      have H := lc_lv_up hl hr h0 hq1 z1 z2
      refine ⟨vp_in_nI (by omega) (by omega), vp_in_nI (by omega) (by omega), nm_r (nI_1 _) ⟨vp_in_nI (by omega) (by omega), vp_in_nI (by omega) (by omega), ?_⟩⟩
      refine pk_le (lv (q i 1) + 1) (lv (q i 0)) (fun y => ?_) (fun y => ?_)
      · rw [if_neg (by omega)] at H
        exact nm_r (nI_1 i) (ih (i + 1) ul lv (by omega) hu H)
      · rw [if_pos y] at H
        refine ⟨vp_in_nI (by omega) (by omega), vp_in_nI (by omega) (by omega), nm_e (nm_r (nI_1 i) (ih (i + 1) _ _ (by omega) ?_ H))⟩
        intro x hx
        unfold upd lc_up
        split
        · rfl
        · exact hu x hx
    · exact br_t rfl (nm_r (nI_1 i) (ih (i + 1) ul lv (by omega) hu (lc_lv_no hl z)))
theorem lx_sl25 {post : St2 → Prop} (hG : lc_G nt tm R q) (h24 : R ≤ 24) (hA : lc_A R q rk) (hk : ∀ x, x < nt → rk x < nt)
    (hp : ∀ (ul' : Nat → Int32) (lv' : Nat → Nat), (∀ x, x < nt → ul' x = nI (lv' x)) → lc_lv R nt q (nt - 1) 0 lv' → post ((nI nt), (nI tm), (nI R), (nI n), xP, xC, xK, xM, xL, (lc_rc q), w, ul', (lc_tr t), wy, oR, oS, oE, oD, gR, gP, gS, gE, gK, gD)) :
    ∀ d k (ul : Nat → Int32) (lv : Nat → Nat), k + 1 + d = nt → (∀ x, x < nt → ul x = nI (lv x)) → lc_lv R nt q k 0 lv → wX_setUnitLevels_25 post (nI nt) (nI tm) (nI R) (nI n) xP xC xK xM xL (d + 1) (nI (k + 1)) (lc_rc q) w ul (lc_tr t) wy oR oS oE oD gR gP gS gE gK gD := by
  intro d
  induction d with
  | zero =>
    intro k ul lv hi hu hl
    have h8 := hG.1
    have e : k = nt - 1 := by omega
    rw [wX_setUnitLevels_25]
    refine br_t (nI_le (by omega) (by omega)) (hp ul lv hu ?_)
    rw [← e]; exact hl
  | succ d ih =>
    intro k ul lv hi hu hl
    have h8 := hG.1
    rw [wX_setUnitLevels_25]
    refine br_f (nI_ge (by omega) (by omega)) ⟨R + 1, ?_⟩
    exact lx_sl35 hG h24 hA hk (fun ul' lv' hu' hl' => ih (k + 1) ul' lv' (by omega) hu' (lc_lv_n hl')) R 0 ul lv (by omega) hu hl
theorem lx_sl2 {post : St2 → Prop} (hG : lc_G nt tm R q) (h24 : R ≤ 24) (h1 : 1 ≤ nt) (hA : lc_A R q rk) (hk : ∀ x, x < nt → rk x < nt)
    (hp : ∀ (ul' : Nat → Int32) (lv' : Nat → Nat), (∀ x, x < nt → ul' x = nI (lv' x)) → lc_lv R nt q (nt - 1) 0 lv' → post ((nI nt), (nI tm), (nI R), (nI n), xP, xC, xK, xM, xL, (lc_rc q), w, ul', (lc_tr t), wy, oR, oS, oE, oD, gR, gP, gS, gE, gK, gD)) :
    ∀ d k (ul : Nat → Int32), k + d = nt → (∀ x, x < k → ul x = nI 0) → wX_setUnitLevels_2 post (nI nt) (nI tm) (nI R) (nI n) xP xC xK xM xL (d + 1) (nI k) (lc_rc q) w ul (lc_tr t) wy oR oS oE oD gR gP gS gE gK gD := by
  intro d
  induction d with
  | zero =>
    intro k ul hi hu
    have h8 := hG.1
    obtain rfl : k = nt := by omega
    rw [wX_setUnitLevels_2]
    refine br_t (nI_le (by omega) (by omega)) ⟨k - 1 + 1, ?_⟩
    exact lx_sl25 hG h24 hA hk hp (k - 1) 0 ul (fun _ => 0) (by omega) hu (lc_lv_0 (fun _ _ => rfl))
  | succ d ih =>
    intro k ul hi hu
    have h8 := hG.1
    rw [wX_setUnitLevels_2]
    refine br_f (nI_ge (by omega) (by omega)) ⟨vp_in_nI (by omega) (by omega), nm_e (nm_r (nI_1 k) ?_)⟩
    rw [nI_clamp (by omega)]
    refine ih (k + 1) _ (by omega) ?_
    intro x hx
    by_cases z : x = k
    · subst z; exact pk_us
    · rw [pk_un z]; exact hu x (by omega)
theorem lx_sl {post : St2 → Prop} (hG : lc_G nt tm R q) (h24 : R ≤ 24) (h1 : 1 ≤ nt) (hA : lc_A R q rk) (hk : ∀ x, x < nt → rk x < nt)
    (hp : ∀ (ul' : Nat → Int32) (lv' : Nat → Nat), (∀ x, x < nt → ul' x = nI (lv' x)) → lc_A R q lv' → (∀ x, x < nt → lv' x < nt) → post ((nI nt), (nI tm), (nI R), (nI n), xP, xC, xK, xM, xL, (lc_rc q), w, ul', (lc_tr t), wy, oR, oS, oE, oD, gR, gP, gS, gE, gK, gD)) : wpX_setUnitLevels post ((nI nt), (nI tm), (nI R), (nI n), xP, xC, xK, xM, xL, (lc_rc q), w, ul, (lc_tr t), wy, oR, oS, oE, oD, gR, gP, gS, gE, gK, gD) := by
  unfold wpX_setUnitLevels
  refine ⟨nt + 1, lx_sl2 hG h24 h1 hA hk (fun ul' lv' hu hl => ?_) nt 0 ul (by omega) (fun x hx => by omega)⟩
  have H := lc_lv_end hA hk (fun r hr => (hG.2.2 r hr).1) (fun r hr => lc_G_8 hG hr 1 (by omega)) hl
  exact hp ul' lv' hu H.1 H.2
theorem lx_cs13 {post : St2 → Prop} {J2 : Int32 → Int32 → Int32 → Int32 → Int32 → Int32 → Int32 → Int32 → Int32 → Int32 → (Nat → Int32) → (Nat → Int32) → (Nat → Int32) → (Nat → Int32) → (Nat → Int32) → (Nat → Int32) → (Nat → Int32) → (Nat → Int32) → (Nat → Int32) → (Nat → Int32) → (Nat → Int32) → (Nat → Int32) → (Nat → Int32) → (Nat → Int32) → (Nat → Int32) → Prop} {s e L : Nat} (hG : lc_G nt tm R q) (h24 : R ≤ 24) (hn : n ≤ 12) (hA : lc_A R q rk) (hk : ∀ x, x < nt → rk x < nt) (hu : ∀ x, x < nt → ul x = nI (rk x)) (hs : s < e) (he : e ≤ n) (hL : L ≤ 8)
    (hJ : ∀ (wy' : Nat → Int32) (t' : Nat → Nat), (∀ j, t' j ≤ 1000000) → lc_D q w R nt n rk s e L nt t' → J2 (nI (L + 1)) (nI nt) (nI tm) (nI R) (nI n) xP xC xK xM xL (lc_rc q) w ul (lc_tr t') wy' oR oS oE oD gR gP gS gE gK gD) :
    ∀ d x (wy : Nat → Int32) (t : Nat → Nat), x + d = nt → (∀ j, t j ≤ 1000000) → lc_D q w R nt n rk s e L x t → wX_countSpan_13 post J2 (nI s) (nI e) (nI L) (d + 1) (nI x) (nI nt) (nI tm) (nI R) (nI n) xP xC xK xM xL (lc_rc q) w ul (lc_tr t) wy oR oS oE oD gR gP gS gE gK gD := by
  intro d
  induction d with
  | zero =>
    intro x wy t hx ht hD
    have h8 := hG.1
    obtain rfl : x = nt := by omega
    rw [wX_countSpan_13]
    exact br_t (nI_le (Nat.le_refl _) (by omega)) (nm_r (nI_1 L) (hJ wy t ht hD))
  | succ d ih =>
    intro x wy t hx ht hD
    have h8 := hG.1
    have hkx := hk x (by omega)
    rw [wX_countSpan_13]
    refine br_f (nI_ge (by omega) (by omega)) ⟨vp_in_nI (by omega) (by omega), ?_⟩
    rw [nI_clamp (by omega), hu x (by omega)]
    refine pk_eq (rk x) L (fun z => ?_) (fun z => ?_)
    · refine lx_cell hG h24 ht (by omega) hs (by omega) (fun wy' => nm_r (nI_1 x) ?_)
      refine ih (x + 1) wy' _ (by omega) (lc_up_le ht (lc_n_le _ _ _)) ?_
      exact lc_D_w hG hA hn (by omega) hs he hD (Or.inl (by omega))
    · exact nm_r (nI_1 x) (ih (x + 1) wy t (by omega) ht (lc_D_s hD z))
theorem lx_cs2 {post : St2 → Prop} {s e : Nat} (hG : lc_G nt tm R q) (h24 : R ≤ 24) (hn : n ≤ 12) (hA : lc_A R q rk) (hk : ∀ x, x < nt → rk x < nt) (hu : ∀ x, x < nt → ul x = nI (rk x)) (hs : s < e) (he : e ≤ n)
    (hp : ∀ (wy' : Nat → Int32) (t' : Nat → Nat), (∀ j, t' j ≤ 1000000) → lc_D q w R nt n rk s e nt 0 t' → post ((nI nt), (nI tm), (nI R), (nI n), xP, xC, xK, xM, xL, (lc_rc q), w, ul, (lc_tr t'), wy', oR, oS, oE, oD, gR, gP, gS, gE, gK, gD)) :
    ∀ d L (wy : Nat → Int32) (t : Nat → Nat), L + d = nt → (∀ j, t j ≤ 1000000) → lc_D q w R nt n rk s e L 0 t → wX_countSpan_2 post (nI s) (nI e) (d + 1) (nI L) (nI nt) (nI tm) (nI R) (nI n) xP xC xK xM xL (lc_rc q) w ul (lc_tr t) wy oR oS oE oD gR gP gS gE gK gD := by
  intro d
  induction d with
  | zero =>
    intro L wy t hx ht hD
    have h8 := hG.1
    obtain rfl : L = nt := by omega
    rw [wX_countSpan_2]
    exact br_t (nI_le (Nat.le_refl _) (by omega)) (hp wy t ht hD)
  | succ d ih =>
    intro L wy t hx ht hD
    have h8 := hG.1
    rw [wX_countSpan_2]
    refine br_f (nI_ge (by omega) (by omega)) ⟨nt + 1, ?_⟩
    exact lx_cs13 hG h24 hn hA hk hu hs he (by omega) (fun wy' t' ht' hD' => ih (L + 1) wy' t' (by omega) ht' (lc_D_L hD')) nt 0 wy t (by omega) ht hD
theorem lx_cs {post : St2 → Prop} {s e : Nat} (hG : lc_G nt tm R q) (h24 : R ≤ 24) (hn : n ≤ 12) (hA : lc_A R q rk) (hk : ∀ x, x < nt → rk x < nt) (hu : ∀ x, x < nt → ul x = nI (rk x)) (hs : s < e) (he : e ≤ n) (ht : ∀ j, t j ≤ 1000000) (hD : lc_D q w R nt n rk s e 0 0 t)
    (hp : ∀ (wy' : Nat → Int32) (t' : Nat → Nat), (∀ j, t' j ≤ 1000000) → lc_D q w R nt n rk s e nt 0 t' → post ((nI nt), (nI tm), (nI R), (nI n), xP, xC, xK, xM, xL, (lc_rc q), w, ul, (lc_tr t'), wy', oR, oS, oE, oD, gR, gP, gS, gE, gK, gD)) : wpX_countSpan post ((nI nt), (nI tm), (nI R), (nI n), xP, xC, xK, xM, xL, (lc_rc q), w, ul, (lc_tr t), wy, oR, oS, oE, oD, gR, gP, gS, gE, gK, gD) (nI s) (nI e) := by
  unfold wpX_countSpan
  exact ⟨nt + 1, lx_cs2 hG h24 hn hA hk hu hs he hp nt 0 wy t (by omega) ht hD⟩
theorem lx_pa20 {post : Int32 → St2 → Prop} {J10 : Int32 → Int32 → Int32 → Int32 → Int32 → Int32 → Int32 → Int32 → Int32 → Int32 → (Nat → Int32) → (Nat → Int32) → (Nat → Int32) → (Nat → Int32) → (Nat → Int32) → (Nat → Int32) → (Nat → Int32) → (Nat → Int32) → (Nat → Int32) → (Nat → Int32) → (Nat → Int32) → (Nat → Int32) → (Nat → Int32) → (Nat → Int32) → (Nat → Int32) → Prop} {l : Nat} (hG : lc_G nt tm R q) (h24 : R ≤ 24) (hn : n ≤ 12) (hA : lc_A R q rk) (hk : ∀ x, x < nt → rk x < nt) (hu : ∀ x, x < nt → ul x = nI (rk x)) (hl : 1 ≤ l)
    (hJ : ∀ (wy' : Nat → Int32) (t' : Nat → Nat), (∀ j, t' j ≤ 1000000) → lc_D q w R nt n rk 0 (l + 1) 0 0 t' → J10 (nI (l + 1)) (nI nt) (nI tm) (nI R) (nI n) xP xC xK xM xL (lc_rc q) w ul (lc_tr t') wy' oR oS oE oD gR gP gS gE gK gD) :
    ∀ d s (wy : Nat → Int32) (t : Nat → Nat), s + l + d = n + 1 → (∀ j, t j ≤ 1000000) → lc_D q w R nt n rk s (s + l) 0 0 t → wX_parse_20 post J10 (nI l) (d + 1) (nI s) (nI nt) (nI tm) (nI R) (nI n) xP xC xK xM xL (lc_rc q) w ul (lc_tr t) wy oR oS oE oD gR gP gS gE gK gD := by
  intro d
  induction d with
  | zero =>
    intro s wy t hs ht hD
    rw [wX_parse_20]
    exact br_t (by rw [nI_add]; exact nI_lt (by omega) (by omega)) (nm_r (nI_1 l) (hJ wy t ht (lc_D_r (by omega) hD)))
  | succ d ih =>
    intro s wy t hs ht hD
    rw [wX_parse_20]
    refine br_f (by rw [nI_add]; exact nI_nlt (by omega) (by omega)) ?_
    rw [nI_add]
    refine lx_cs hG h24 hn hA hk hu (by omega) (by omega) ht hD (fun wy' t' ht' hD' => nm_r (nI_1 s) ?_)
    refine ih (s + 1) wy' t' (by omega) ht' ?_
    have := lc_D_e hk (Nat.le_refl nt) hD' (by omega)
    rw [show s + 1 + l = s + l + 1 by omega]
    exact this
theorem lx_pa10 {post : Int32 → St2 → Prop} (hG : lc_G nt tm R q) (h24 : R ≤ 24) (hn : n ≤ 12) (hA : lc_A R q rk) (hk : ∀ x, x < nt → rk x < nt) (hu : ∀ x, x < nt → ul x = nI (rk x))
    (hp : ∀ (wy' : Nat → Int32) (t' : Nat → Nat), (∀ j, t' j ≤ 1000000) → lc_sat q w R nt n t' → post (nI (lc_rt t' n)) ((nI nt), (nI tm), (nI R), (nI n), 1, (nI (lc_rt t' n)), xK, xM, xL, (lc_rc q), w, ul, (lc_tr t'), wy', oR, oS, oE, oD, gR, gP, gS, gE, gK, gD)) :
    ∀ d l (wy : Nat → Int32) (t : Nat → Nat), l + d = n + 1 → 1 ≤ l → (∀ j, t j ≤ 1000000) → lc_D q w R nt n rk 0 l 0 0 t → wX_parse_10 post (d + 1) (nI l) (nI nt) (nI tm) (nI R) (nI n) xP xC xK xM xL (lc_rc q) w ul (lc_tr t) wy oR oS oE oD gR gP gS gE gK gD := by
  intro d
  induction d with
  | zero =>
    intro l wy t hl h1 ht hD
    obtain rfl : l = n + 1 := by omega
    have H := hp wy t ht (lc_D_sat hD)
    rw [wX_parse_10]
    refine br_t (nI_lt (by omega) (by omega)) ?_
    unfold lc_rt at H
    refine lc_if (lc_eq0 (by omega)) (fun z => ?_) (fun z => ?_)
    · rw [if_pos z] at H; exact H
    · rw [if_neg z] at H
      exact lx_sym (c := 0) (s := 0) (by omega) (by omega) hn H
  | succ d ih =>
    intro l wy t hl h1 ht hD
    rw [wX_parse_10]
    refine br_f (nI_nlt (by omega) (by omega)) ⟨n + 1 - l + 1, ?_⟩
    refine lx_pa20 hG h24 hn hA hk hu h1 (fun wy' t' ht' hD' => ih (l + 1) wy' t' (by omega) (by omega) ht' hD') (n + 1 - l) 0 wy t (by omega) ht ?_
    rw [Nat.zero_add]; exact hD
theorem lx_parse {post : Int32 → St2 → Prop} (hG : lc_G nt tm R q) (h24 : R ≤ 24) (h1 : 1 ≤ nt) (hn : n ≤ 12) (hA : lc_A R q rk) (hk : ∀ x, x < nt → rk x < nt) (ht : ∀ j, t j ≤ 1000000)
    (hp : ∀ (ul' wy' : Nat → Int32) (t' : Nat → Nat), (∀ j, t' j ≤ 1000000) → lc_sat q w R nt n t' → post (nI (lc_rt t' n)) ((nI nt), (nI tm), (nI R), (nI n), 1, (nI (lc_rt t' n)), (-1), 0, xL, (lc_rc q), w, ul', (lc_tr t'), wy', oR, oS, oE, oD, gR, gP, gS, gE, gK, gD)) : wpX_parse post ((nI nt), (nI tm), (nI R), (nI n), xP, xC, xK, xM, xL, (lc_rc q), w, ul, (lc_tr t), wy, oR, oS, oE, oD, gR, gP, gS, gE, gK, gD) := by
  unfold wpX_parse
  unfold wpX_forgetParse
  refine lx_sl hG h24 h1 hA hk (fun ul' lv' hu hA' hk' => ?_)
  exact ⟨n + 1, lx_pa10 hG h24 hn hA' hk' hu (fun wy' t' => hp ul' wy' t') n 1 wy t (by omega) (by omega) ht lc_D_0⟩
end LXC
