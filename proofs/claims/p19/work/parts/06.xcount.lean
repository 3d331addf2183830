section LXB
variable {q : Nat → Nat → Nat} {w : Nat → Int32} {t : Nat → Nat} {nt tm R n : Nat}
variable {xP xC xK xM xL : Int32} {ul wy oR oS oE oD gR gP gS gE gK gD : Nat → Int32}
theorem lx_sym {post : Int32 → Prop} {c s e : Nat} (hc : c < 16) (hs : s < e) (he : e ≤ 12) (h : post (nI (lc_y w t c s e))) : wpX_symbolTrees post ((nI nt), (nI tm), (nI R), (nI n), xP, xC, xK, xM, xL, (lc_rc q), w, ul, (lc_tr t), wy, oR, oS, oE, oD, gR, gP, gS, gE, gK, gD) (nI c) (nI s) (nI e) := by
  unfold wpX_symbolTrees
  unfold lc_y at h
  refine pk_le 8 c (fun h8 => ?_) (fun h8 => ?_)
  · rw [if_neg (by omega)] at h
    have e1 : nI e - nI s = nI (e - s) := pk_sub (by omega)
    have e2 : nI c - 8 = nI (c - 8) := pk_sub (a := c) (b := 8) (by omega)
    rw [e1, e2]
    refine pk_eq (e - s) 1 (fun z => ⟨vp_in_nI (by omega) (by omega), ?_⟩) (fun z => ?_)
    · rw [nI_clamp (by omega)]
      refine br_c (fun z2 => ?_) (fun z2 => ?_)
      · rw [if_pos ⟨by omega, z2⟩] at h; exact h
      · rw [if_neg (fun y => z2 y.2)] at h; exact h
    · rw [if_neg (fun y => z (by omega))] at h; exact h
  · rw [if_pos h8] at h
    have hx := lc_ix_lt (x := c) (s := s) (e := e) h8 (by omega) (by omega)
    rw [lc_ixN, nI_clamp (by omega)]
    exact ⟨vp_in_nI hx (by omega), h⟩
theorem lx_cap {post : Int32 → Prop} {a b c : Nat} (ha : a ≤ 1000000) (hb : b ≤ 1000000) (hc : c ≤ 1000000) (h : post (nI (lc_cp (a + b * c)))) : wpX_cappedSum post () (nI a) (nI b) (nI c) := by
  unfold wpX_cappedSum
  have hm : b * c ≤ 1000000 * 1000000 := Nat.mul_le_mul hb hc
  have e1 : (nI a).toInt64 + (nI b).toInt64 * (nI c).toInt64 = lN (a + b * c) := by
    rw [nI_l (by omega), nI_l (by omega), nI_l (by omega), lN_mul, lN_add]
  refine nm_r e1 ?_
  have e2 : (1000000 ≤ lN (a + b * c)) ↔ 1000000 ≤ a + b * c := pk_lLE (a := 1000000) (b := a + b * c) (by omega) (by omega)
  refine lc_if e2 (fun z => ?_) (fun z => ?_)
  · have : lc_cp (a + b * c) = 1000000 := if_neg (by omega)
    rw [this] at h; exact h
  · have : lc_cp (a + b * c) = a + b * c := if_pos (by omega)
    rw [this] at h
    rw [lN_i]; exact h
/-- the ways behind symbol c, before it -/
def lc_pb (w : Nat → Int32) (t : Nat → Nat) (c e : Nat) (v : Nat → Nat) (k : Nat) : Nat := lc_cp (lc_S (fun i => lc_y w t c k i * v i) (k + 1) (e + 1))
theorem lx_pb18 {post : St2 → Prop} {J3 : Int32 → (Nat → Int32) → (Nat → Int32) → (Nat → Int32) → (Nat → Int32) → (Nat → Int32) → (Nat → Int32) → (Nat → Int32) → (Nat → Int32) → (Nat → Int32) → (Nat → Int32) → (Nat → Int32) → (Nat → Int32) → (Nat → Int32) → (Nat → Int32) → (Nat → Int32) → Prop} {c k e : Nat} {v : Nat → Nat} (ht : ∀ j, t j ≤ 1000000) (hc : c < 16) (hk : k ≤ e) (he : e ≤ 12) (hv : ∀ i, v i ≤ 1000000) (hw : ∀ i, k < i → i ≤ e → wy i = nI (v i)) (hJ : J3 (nI (k + 1)) (lc_rc q) w ul (lc_tr t) (upd wy k (nI (lc_pb w t c e v k))) oR oS oE oD gR gP gS gE gK gD) :
    ∀ d i, i + d = e + 1 → k + 1 ≤ i → wX_putBefore_18 post J3 (nI c) (nI e) (nI k) (nI nt) (nI tm) (nI R) (nI n) xP xC xK xM xL (lc_rc q) w ul (lc_tr t) wy oR oS oE oD gR gP gS gE gK gD (d + 1) (nI (lc_cp (lc_S (fun i => lc_y w t c k i * v i) (k + 1) i))) (nI i) := by
  intro d
  induction d with
  | zero =>
    intro i hi h1
    obtain rfl : i = e + 1 := by omega
    refine br_t (nI_lt (by omega) (by omega)) ⟨vp_in_nI (by omega) (by omega), ?_⟩
    rw [nI_clamp (by omega)]
    exact nm_e (nm_r (nI_1 k) hJ)
  | succ d ih =>
    intro i hi h1
    rw [wX_putBefore_18]
    have hi2 : i ≤ e := by omega
    have H := ih (i + 1) (by omega) (by omega)
    rw [lc_S_s h1] at H
    refine br_f (nI_nlt hi2 (by omega)) ⟨vp_in_nI (by omega) (by omega), ?_⟩
    have hvi := hv i
    rw [nI_clamp (by omega), hw i (by omega) hi2]
    refine lc_if (lc_0le (by omega)) (fun z => ?_) (fun z => ?_)
    · rw [z, Nat.mul_zero, Nat.add_zero] at H
      exact nm_r (nI_1 i) H
    · refine lx_sym hc (by omega) (by omega) ⟨vp_in_nI (by omega) (by omega), ?_⟩
      refine lx_cap (lc_cp_le _) (lc_y_le ht _ _ _) hvi ?_
      rw [lc_cp_a]
      exact nm_r (nI_1 i) H
theorem lx_pb3 {post : St2 → Prop} {c s e : Nat} {v : Nat → Nat} (ht : ∀ j, t j ≤ 1000000) (hc : c < 16) (hs : s ≤ e) (he : e ≤ 12) (hv : ∀ i, v i ≤ 1000000) (hp : ∀ wy', (∀ k, s ≤ k → k ≤ e → wy' k = nI (lc_pb w t c e v k)) → post ((nI nt), (nI tm), (nI R), (nI n), xP, xC, xK, xM, xL, (lc_rc q), w, ul, (lc_tr t), wy', oR, oS, oE, oD, gR, gP, gS, gE, gK, gD)) :
    ∀ d k wy, k + d = e + 1 → s ≤ k → (∀ i, s ≤ i → i < k → wy i = nI (lc_pb w t c e v i)) → (∀ i, k ≤ i → i ≤ e → wy i = nI (v i)) → wX_putBefore_3 post (nI c) (nI e) (nI nt) (nI tm) (nI R) (nI n) xP xC xK xM xL (d + 1) (nI k) (lc_rc q) w ul (lc_tr t) wy oR oS oE oD gR gP gS gE gK gD := by
  intro d
  induction d with
  | zero =>
    intro k wy hk hsk h1 h2
    obtain rfl : k = e + 1 := by omega
    exact br_t (nI_lt (by omega) (by omega)) (hp wy (fun i a b => h1 i a (by omega)))
  | succ d ih =>
    intro k wy hk hsk h1 h2
    rw [wX_putBefore_3]
    refine br_f (nI_nlt (by omega) (by omega)) (nm_r (nI_1 k) ⟨e - k + 1, ?_⟩)
    have h0 : lc_S (fun i => lc_y w t c k i * v i) (k + 1) (k + 1) = 0 := lc_S_0 (Nat.le_refl _)
    have H := lx_pb18 (post := post) (J3 := wX_putBefore_3 post (nI c) (nI e) (nI nt) (nI tm) (nI R) (nI n) xP xC xK xM xL (d + 1)) (xP := xP) (xC := xC) (xK := xK) (xM := xM) (xL := xL) (nt := nt) (tm := tm) (R := R) (n := n) (q := q) (w := w) (t := t) (ul := ul) (wy := wy) (oR := oR) (oS := oS) (oE := oE) (oD := oD) (gR := gR) (gP := gP) (gS := gS) (gE := gE) (gK := gK) (gD := gD) (c := c) (k := k) (e := e) (v := v) ht hc (by omega) he hv (fun i a b => h2 i (by omega) b) ?_ (e - k) (k + 1) (by omega) (by omega)
    · rw [h0] at H
      exact H
    · refine ih (k + 1) _ (by omega) (by omega) ?_ ?_
      · intro i a b
        by_cases z : i = k
        · subst z; exact pk_us
        · rw [pk_un z]; exact h1 i a (by omega)
      · intro i a b
        rw [pk_un (by omega)]; exact h2 i (by omega) b
theorem lx_put {post : St2 → Prop} {c s e : Nat} {v : Nat → Nat} (ht : ∀ j, t j ≤ 1000000) (hc : c < 16) (hs : s ≤ e) (he : e ≤ 12) (hv : ∀ i, v i ≤ 1000000) (hw : ∀ i, s ≤ i → i ≤ e → wy i = nI (v i)) (hp : ∀ wy', (∀ k, s ≤ k → k ≤ e → wy' k = nI (lc_pb w t c e v k)) → post ((nI nt), (nI tm), (nI R), (nI n), xP, xC, xK, xM, xL, (lc_rc q), w, ul, (lc_tr t), wy', oR, oS, oE, oD, gR, gP, gS, gE, gK, gD)) : wpX_putBefore post ((nI nt), (nI tm), (nI R), (nI n), xP, xC, xK, xM, xL, (lc_rc q), w, ul, (lc_tr t), wy, oR, oS, oE, oD, gR, gP, gS, gE, gK, gD) (nI c) (nI s) (nI e) := by
  unfold wpX_putBefore
  exact ⟨e + 1 - s + 1, lx_pb3 ht hc hs he hv hp (e + 1 - s) s wy (by omega) (Nat.le_refl _) (fun i a b => by omega) hw⟩
/-- the last i symbols of rule r stand in the ways -/
theorem lx_tt35 {post : Int32 → St2 → Prop} {r j s e : Nat} (hG : lc_G nt tm R q) (h24 : R ≤ 24) (ht : ∀ j, t j ≤ 1000000) (hr : r < R) (hj : j ≤ 3) (hs : s ≤ e) (he : e ≤ 12) (hp : ∀ wy', post (nI (lc_w q w t r j s e)) ((nI nt), (nI tm), (nI R), (nI n), xP, xC, xK, xM, xL, (lc_rc q), w, ul, (lc_tr t), wy', oR, oS, oE, oD, gR, gP, gS, gE, gK, gD)) :
    ∀ d i wy, i + d = j → (∀ k, s ≤ k → k ≤ e → wy k = nI (lc_w q w t r i k e)) → wX_tailTrees_35 post (nI r) (nI (4 - j)) (nI s) (nI e) (d + 1) (nI (3 - i)) (nI nt) (nI tm) (nI R) (nI n) xP xC xK xM xL (lc_rc q) w ul (lc_tr t) wy oR oS oE oD gR gP gS gE gK gD := by
  intro d
  induction d with
  | zero =>
    intro i wy hi h
    obtain rfl : i = j := by omega
    refine br_t (nI_lt (by omega) (by omega)) ⟨vp_in_nI (by omega) (by omega), ?_⟩
    rw [nI_clamp (by omega), h s (Nat.le_refl _) hs]
    exact hp wy
  | succ d ih =>
    intro i wy hi h
    rw [wX_tailTrees_35]
    have ei : nI r * 4 + nI (3 - i) = nI (r * 4 + (3 - i)) := by rw [lc_x4, nI_add]
    have ed : nI (3 - i) + (-1) = nI (3 - (i + 1)) := by
      rw [show 3 - i = 3 - (i + 1) + 1 by omega]; exact pk_m1 _
    refine br_f (nI_nlt (by omega) (by omega)) ?_
    rw [ei, nI_clamp (by omega), lc_rc_p (by omega)]
    refine ⟨vp_in_nI (by omega) (by omega), nm_e ?_⟩
    have h16 := lc_G_r hG hr (3 - i) (by omega)
    refine lc_if (lc_cd_e h16) (fun z => ?_) (fun z => ?_)
    · refine nm_r ed (ih (i + 1) wy (by omega) ?_)
      intro k a b
      rw [lc_w_n z]; exact h k a b
    · rw [lc_cd_n z]
      refine lx_put ht (by omega) hs he (v := fun k => lc_w q w t r i k e) (fun k => lc_w_le _ _ _) h (fun wy' hw' => ?_)
      refine nm_r ed (ih (i + 1) wy' (by omega) ?_)
      intro k a b
      rw [lc_w_s z]; exact hw' k a b
theorem lx_tt3 {post : Int32 → St2 → Prop} {r j s e : Nat} (hG : lc_G nt tm R q) (h24 : R ≤ 24) (ht : ∀ j, t j ≤ 1000000) (hr : r < R) (hj : j ≤ 3) (hs : s ≤ e) (he : e ≤ 12) (hp : ∀ wy', post (nI (lc_w q w t r j s e)) ((nI nt), (nI tm), (nI R), (nI n), xP, xC, xK, xM, xL, (lc_rc q), w, ul, (lc_tr t), wy', oR, oS, oE, oD, gR, gP, gS, gE, gK, gD)) :
    ∀ d k wy, k + d = e → s ≤ k → (∀ i, s ≤ i → i < k → wy i = nI 0) → wX_tailTrees_3 post (nI r) (nI (4 - j)) (nI s) (nI e) (nI nt) (nI tm) (nI R) (nI n) xP xC xK xM xL (d + 1) (nI k) (lc_rc q) w ul (lc_tr t) wy oR oS oE oD gR gP gS gE gK gD := by
  intro d
  induction d with
  | zero =>
    intro k wy hk hsk h
    obtain rfl : k = e := by omega
    refine br_t (nI_le (Nat.le_refl _) (by omega)) ⟨vp_in_nI (by omega) (by omega), nm_e ⟨j + 1, ?_⟩⟩
    rw [nI_clamp (by omega)]
    refine lx_tt35 hG h24 ht hr hj hs he hp j 0 _ (by omega) ?_
    intro i a b
    rw [lc_w_0]
    by_cases z : i = k
    · subst z; rw [if_pos rfl]; exact pk_us
    · rw [pk_un z, if_neg z]; exact h i a (by omega)
  | succ d ih =>
    intro k wy hk hsk h
    rw [wX_tailTrees_3]
    refine br_f (nI_ge (by omega) (by omega)) ⟨vp_in_nI (by omega) (by omega), nm_e (nm_r (nI_1 k) ?_)⟩
    rw [nI_clamp (by omega)]
    refine ih (k + 1) _ (by omega) (by omega) ?_
    intro i a b
    by_cases z : i = k
    · subst z; exact pk_us
    · rw [pk_un z]; exact h i a (by omega)
theorem lx_tail {post : Int32 → St2 → Prop} {r j s e : Nat} (hG : lc_G nt tm R q) (h24 : R ≤ 24) (ht : ∀ j, t j ≤ 1000000) (hr : r < R) (hj : j ≤ 3) (hs : s ≤ e) (he : e ≤ 12) (hp : ∀ wy', post (nI (lc_w q w t r j s e)) ((nI nt), (nI tm), (nI R), (nI n), xP, xC, xK, xM, xL, (lc_rc q), w, ul, (lc_tr t), wy', oR, oS, oE, oD, gR, gP, gS, gE, gK, gD)) : wpX_tailTrees post ((nI nt), (nI tm), (nI R), (nI n), xP, xC, xK, xM, xL, (lc_rc q), w, ul, (lc_tr t), wy, oR, oS, oE, oD, gR, gP, gS, gE, gK, gD) (nI r) (nI (4 - j)) (nI s) (nI e) := by
  unfold wpX_tailTrees
  exact ⟨e - s + 1, lx_tt3 hG h24 ht hr hj hs he hp (e - s) s wy (by omega) (Nat.le_refl _) (fun i a b => by omega)⟩
theorem lx_cc6 {post : St2 → Prop} {x s e : Nat} (hG : lc_G nt tm R q) (h24 : R ≤ 24) (ht : ∀ j, t j ≤ 1000000) (hx : x < 8) (hs : s < e) (he : e ≤ 12) (hp : ∀ wy', post ((nI nt), (nI tm), (nI R), (nI n), xP, xC, xK, xM, xL, (lc_rc q), w, ul, (lc_tr (lc_up t (lc_ix x s e) (lc_n q w t R x s e))), wy', oR, oS, oE, oD, gR, gP, gS, gE, gK, gD)) :
    ∀ d i wy, i + d = R → wX_countCell_6 post (nI x) (nI s) (nI e) (d + 1) (nI (lc_cp (lc_S (lc_g q w t x s e) 0 i))) (nI i) (nI nt) (nI tm) (nI R) (nI n) xP xC xK xM xL (lc_rc q) w ul (lc_tr t) wy oR oS oE oD gR gP gS gE gK gD := by
  intro d
  induction d with
  | zero =>
    intro i wy hi
    obtain rfl : i = R := by omega
    have hl := lc_ix_lt (x := x) (s := s) (e := e) hx (by omega) (by omega)
    refine br_t (nI_le (Nat.le_refl _) (by omega)) ?_
    rw [lc_ixN, nI_clamp (by omega), lc_tr_up]
    exact ⟨vp_in_nI hl (by omega), nm_e (hp wy)⟩
  | succ d ih =>
    intro i wy hi
    have hr : i < R := by omega
    have h0 := (hG.2.2 i hr).1
    have h8 := hG.1
    rw [wX_countCell_6]
    refine br_f (nI_ge hr (by omega)) ?_
    rw [lc_x4, nI_clamp (by omega), lc_rc_0, lc_cd_n (by omega)]
    refine ⟨vp_in_nI (by omega) (by omega), ?_⟩
    refine pk_eq (q i 0) x (fun z => ?_) (fun z => ?_)
    · refine lx_tail (j := 3) hG h24 ht hr (by omega) (by omega) he (fun wy' => ?_)
      refine lx_cap (c := 1) (lc_cp_le _) (lc_w_le _ _ _) (by omega) (nm_r (nI_1 i) ?_)
      have H := ih (i + 1) wy' (by omega)
      rw [lc_S_s (Nat.zero_le i)] at H
      have eg : lc_g q w t x s e i = lc_w q w t i 3 s e := if_pos z
      rw [eg] at H
      rw [lc_cp_a, Nat.mul_one]
      exact H
    · have H := ih (i + 1) wy (by omega)
      rw [lc_S_s (Nat.zero_le i)] at H
      have eg : lc_g q w t x s e i = 0 := if_neg z
      rw [eg, Nat.add_zero] at H
      exact nm_r (nI_1 i) H
theorem lx_cell {post : St2 → Prop} {x s e : Nat} (hG : lc_G nt tm R q) (h24 : R ≤ 24) (ht : ∀ j, t j ≤ 1000000) (hx : x < 8) (hs : s < e) (he : e ≤ 12) (hp : ∀ wy', post ((nI nt), (nI tm), (nI R), (nI n), xP, xC, xK, xM, xL, (lc_rc q), w, ul, (lc_tr (lc_up t (lc_ix x s e) (lc_n q w t R x s e))), wy', oR, oS, oE, oD, gR, gP, gS, gE, gK, gD)) : wpX_countCell post ((nI nt), (nI tm), (nI R), (nI n), xP, xC, xK, xM, xL, (lc_rc q), w, ul, (lc_tr t), wy, oR, oS, oE, oD, gR, gP, gS, gE, gK, gD) (nI x) (nI s) (nI e) := by
  unfold wpX_countCell
  exact ⟨R + 1, lx_cc6 hG h24 ht hx hs he hp R 0 wy (by omega)⟩
end LXB
