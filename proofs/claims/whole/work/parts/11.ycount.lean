section LYB
variable {q : Nat → Nat → Nat} {w : Nat → Int32} {t : Nat → Nat} {nt tm R n : Nat} {rk : Nat → Nat}
variable {yP yC yK yM yL yA yB yD : Int32} {yE yF yG : Int64} {ct sK : Nat → Int64} {mk pR pS pE pD sS sB sE sD : Nat → Int32}
/-- Y's table holds t where it is read -/
def lc_ct (ct : Nat → Int64) (nt n : Nat) (t : Nat → Nat) : Prop := ∀ x s e, x < nt → s < e → e ≤ n → ct (lc_ix x s e) = lN (t (lc_ix x s e))
theorem ly_sym {post : Int64 → Prop} {c s e : Nat} (h8 : nt ≤ 8) (hn : n ≤ 12) (hct : lc_ct ct nt n t) (hc : c < 16) (hc8 : c < 8 → c < nt) (hs : s < e) (he : e ≤ n) (h : post (lN (lc_y w t c s e))) : wpY_symCnt post ((nI nt), (nI tm), (nI R), (nI n), yP, yC, yK, yM, yL, yA, yB, yD, yE, yF, yG, (lc_ra q 0), (lc_ra q 1), (lc_ra q 2), (lc_ra q 3), w, ct, mk, pR, pS, pE, pD, sS, sB, sE, sD, sK) (nI c) (nI s) (nI e) := by
  unfold wpY_symCnt
  unfold lc_y at h
  refine br_f (nI_pos (by omega)) (br_f (nI_nlt he (by omega)) (br_f (nI_ge hs (by omega)) (br_t (nI_le (b := 12) (by omega) (by decide)) (br_f (nI_pos (by omega)) ?_))))
  refine pk_le 8 c (fun z => ?_) (fun z => ?_)
  · unfold wY_symCnt_52
    rw [if_neg (by omega)] at h
    refine br_f (nI_nlt (b := 8) z (by omega)) (br_f (nI_ge (b := 16) hc (by decide)) ?_)
    have e1 : nI e - nI s = nI (e - s) := pk_sub (by omega)
    have e2 : nI c - 8 = nI (c - 8) := pk_sub (a := c) (b := 8) (by omega)
    rw [e1, e2]
    refine pk_eq (e - s) 1 (fun z => ⟨vp_in_nI (by omega) (by omega), ?_⟩) (fun z => ?_)
    · rw [nI_clamp (by omega)]
      refine br_c (fun z2 => ?_) (fun z2 => ?_)
      · rw [if_pos ⟨by omega, z2⟩] at h; exact h
      · rw [if_neg (fun y => z2 y.2)] at h; exact h
    · rw [if_neg (fun y => z (by omega))] at h; exact h
  · rw [if_pos z] at h
    have hx := lc_ix_lt (x := c) (s := s) (e := e) z (by omega) (by omega)
    rw [lc_ixN, nI_clamp (by omega), hct c s e (hc8 z) hs he]
    exact ⟨vp_in_nI hx (by omega), h⟩
theorem ly_add {post : Int64 → Prop} {a b : Nat} (ha : a ≤ 1000000) (hb : b ≤ 1000000) (h : post (lN (lc_cp (a + b)))) : wpY_add post ((nI nt), (nI tm), (nI R), (nI n), yP, yC, yK, yM, yL, yA, yB, yD, yE, yF, yG, (lc_ra q 0), (lc_ra q 1), (lc_ra q 2), (lc_ra q 3), w, ct, mk, pR, pS, pE, pD, sS, sB, sE, sD, sK) (lN a) (lN b) := by
  unfold wpY_add
  exact nm_r (lN_add a b) (lc_cpL (by omega) h)
theorem ly_mul {post : Int64 → Prop} {a b : Nat} (ha : a ≤ 1000000) (hb : b ≤ 1000000) (h : post (lN (lc_cp (a * b)))) : wpY_mul post ((nI nt), (nI tm), (nI R), (nI n), yP, yC, yK, yM, yL, yA, yB, yD, yE, yF, yG, (lc_ra q 0), (lc_ra q 1), (lc_ra q 2), (lc_ra q 3), w, ct, mk, pR, pS, pE, pD, sS, sB, sE, sD, sK) (lN a) (lN b) := by
  unfold wpY_mul
  have hm : a * b ≤ 1000000 * 1000000 := Nat.mul_le_mul ha hb
  exact nm_r (lN_mul a b) (lc_cpL (by omega) h)
/-- sum + a * b, both saturated -/
theorem ly_ma {post : Int64 → Prop} {S a b : Nat} (ha : a ≤ 1000000) (hb : b ≤ 1000000) (h : post (lN (lc_cp (S + a * b)))) : wpY_mul (fun r => wpY_add post ((nI nt), (nI tm), (nI R), (nI n), yP, yC, yK, yM, yL, yA, yB, yD, yE, yF, yG, (lc_ra q 0), (lc_ra q 1), (lc_ra q 2), (lc_ra q 3), w, ct, mk, pR, pS, pE, pD, sS, sB, sE, sD, sK) (lN (lc_cp S)) r) ((nI nt), (nI tm), (nI R), (nI n), yP, yC, yK, yM, yL, yA, yB, yD, yE, yF, yG, (lc_ra q 0), (lc_ra q 1), (lc_ra q 2), (lc_ra q 3), w, ct, mk, pR, pS, pE, pD, sS, sB, sE, sD, sK) (lN a) (lN b) := by
  refine ly_mul ha hb (ly_add (lc_cp_le _) (lc_cp_le _) ?_)
  rw [lc_cp_a, lc_cp_b]
  exact h
theorem ly_tc8 {post : Int64 → Prop} {b c k e : Nat} (h8 : nt ≤ 8) (hn : n ≤ 12) (ht : ∀ j, t j ≤ 1000000) (hct : lc_ct ct nt n t) (hb : b < 16) (hb8 : b < 8 → b < nt) (hc : c < 16) (hc8 : c < 8 → c < nt) (he : e ≤ n)
    (hp : post (lN (lc_cp (lc_S (fun i => lc_y w t b k i * lc_y w t c i e) (k + 1) e)))) :
    ∀ d i, i + d = e → k + 1 ≤ i → wY_tailCount_8 post (nI b) (nI c) (nI k) (nI e) (nI nt) (nI tm) (nI R) (nI n) yP yC yK yM yL yA yB yD yE yF yG (lc_ra q 0) (lc_ra q 1) (lc_ra q 2) (lc_ra q 3) w ct mk pR pS pE pD sS sB sE sD sK (d + 1) (lN (lc_cp (lc_S (fun i => lc_y w t b k i * lc_y w t c i e) (k + 1) i))) (nI i) := by
  intro d
  induction d with
  | zero =>
    intro i hi hk
    obtain rfl : i = e := by omega
    exact br_t (nI_le (Nat.le_refl _) (by omega)) hp
  | succ d ih =>
    intro i hi hk
    rw [wY_tailCount_8]
    refine br_f (nI_ge (by omega) (by omega)) ?_
    refine ly_sym h8 hn hct hb hb8 (by omega) (by omega) ?_
    refine ly_sym h8 hn hct hc hc8 (by omega) he ?_
    have H := ih (i + 1) (by omega) (by omega)
    rw [lc_S_s hk] at H
    exact ly_ma (lc_y_le ht _ _ _) (lc_y_le ht _ _ _) (nm_r (nI_1 i) H)
theorem ly_tc {post : Int64 → Prop} {r k e : Nat} (hG : lc_G nt tm R q) (hn : n ≤ 12) (ht : ∀ j, t j ≤ 1000000) (hct : lc_ct ct nt n t) (hr : r < R) (h2 : ¬ q r 2 = 16) (h3 : ¬ q r 3 = 16) (hk : k < e) (he : e ≤ n) (hp : post (lN (lc_w q w t r 2 k e))) : wpY_tailCount post ((nI nt), (nI tm), (nI R), (nI n), yP, yC, yK, yM, yL, yA, yB, yD, yE, yF, yG, (lc_ra q 0), (lc_ra q 1), (lc_ra q 2), (lc_ra q 3), w, ct, mk, pR, pS, pE, pD, sS, sB, sE, sD, sK) (nI (q r 2)) (nI (q r 3)) (nI k) (nI e) := by
  unfold wpY_tailCount
  have r2 := lc_G_r hG hr 2 (by omega)
  have r3 := lc_G_r hG hr 3 (by omega)
  have e2 : lc_w q w t r 2 k e = lc_cp (lc_S (fun i => lc_y w t (q r 2) k i * lc_y w t (q r 3) i e) (k + 1) e) := by
    rw [lc_w_m (j := 0) h2 h3 hk]
    refine congrArg lc_cp (lc_S_c ?_)
    intro i a b
    show lc_y w t (q r 2) k i * lc_w q w t r (0 + 1) i e = _
    rw [lc_w_l ht (fun i hi => by omega) h3 b]
  rw [e2] at hp
  refine nm_r (nI_1 k) ⟨e - (k + 1) + 1, ?_⟩
  have H := ly_tc8 (nt := nt) (tm := tm) (R := R) (n := n) (q := q) (w := w) (t := t) (yP := yP) (yC := yC) (yK := yK) (yM := yM) (yL := yL) (yA := yA) (yB := yB) (yD := yD) (yE := yE) (yF := yF) (yG := yG) (ct := ct) (mk := mk) (pR := pR) (pS := pS) (pE := pE) (pD := pD) (sS := sS) (sB := sB) (sE := sE) (sD := sD) (sK := sK) hG.1 hn ht hct (by omega) (lc_G_8 hG hr 2 (by omega)) (by omega) (lc_G_8 hG hr 3 (by omega)) he hp (e - (k + 1)) (k + 1) (by omega) (Nat.le_refl _)
  rw [lc_S_0 (Nat.le_refl _)] at H
  exact H
theorem ly_rs31 {post : Int64 → Prop} {r s e : Nat} (hG : lc_G nt tm R q) (h24 : R ≤ 24) (hn : n ≤ 12) (ht : ∀ j, t j ≤ 1000000) (hct : lc_ct ct nt n t) (hr : r < R) (h2 : ¬ q r 2 = 16) (he : e ≤ n)
    (hp : post (lN (lc_cp (lc_S (fun k => lc_y w t (q r 1) s k * lc_w q w t r 2 k e) (s + 1) e)))) :
    ∀ d i, i + d = e → s + 1 ≤ i → wY_ruleSpanCount_31 post (nI r) (nI s) (nI e) (nI nt) (nI tm) (nI R) (nI n) yP yC yK yM yL yA yB yD yE yF yG (lc_ra q 0) (lc_ra q 1) (lc_ra q 2) (lc_ra q 3) w ct mk pR pS pE pD sS sB sE sD sK (d + 1) (lN (lc_cp (lc_S (fun k => lc_y w t (q r 1) s k * lc_w q w t r 2 k e) (s + 1) i))) (nI i) := by
  intro d
  induction d with
  | zero =>
    intro i hi hk
    obtain rfl : i = e := by omega
    exact br_t (nI_le (Nat.le_refl _) (by omega)) hp
  | succ d ih =>
    intro i hi hk
    have r1 := lc_G_r hG hr 1 (by omega)
    have r2 := lc_G_r hG hr 2 (by omega)
    have r3 := lc_G_r hG hr 3 (by omega)
    have h1 := (lc_G_16 hG hr).1
    have hv : vp_in (nI r) 24 := vp_in_nI (by omega) (by omega)
    have e1 : lc_ra q 1 r = nI (q r 1) := lc_cd_n h1
    have e2 : lc_ra q 2 r = nI (q r 2) := lc_cd_n h2
    have H := ih (i + 1) (by omega) (by omega)
    rw [lc_S_s hk] at H
    rw [wY_ruleSpanCount_31]
    refine br_f (nI_ge (by omega) (by omega)) ⟨hv, ?_⟩
    rw [nI_clamp (by omega), e1, e2]
    refine ly_sym hG.1 hn hct (by omega) (lc_G_8 hG hr 1 (by omega)) (by omega) (by omega) ⟨hv, ?_⟩
    refine lc_if (c := lc_ra q 3 r = -1) (lc_cd_e r3) (fun z => ⟨hv, ?_⟩) (fun z => ⟨hv, hv, ?_⟩)
    · refine ly_sym hG.1 hn hct (by omega) (lc_G_8 hG hr 2 (by omega)) (by omega) (by omega) ?_
      unfold wY_ruleSpanCount_97
      have ew : lc_w q w t r 2 i e = lc_y w t (q r 2) i e := lc_w_l (j := 1) ht (fun i hi => by obtain rfl : i = 0 := (by omega); exact z) h2 (by omega)
      rw [ew] at H
      exact ly_ma (lc_y_le ht _ _ _) (lc_y_le ht _ _ _) (nm_r (nI_1 i) H)
    · have e3 : lc_ra q 3 r = nI (q r 3) := lc_cd_n z
      rw [e3]
      refine ly_tc hG hn ht hct hr h2 z (by omega) he ?_
      unfold wY_ruleSpanCount_97
      exact ly_ma (lc_y_le ht _ _ _) (lc_w_le _ _ _) (nm_r (nI_1 i) H)
theorem ly_rs {post : Int64 → Prop} {r s e : Nat} (hG : lc_G nt tm R q) (h24 : R ≤ 24) (hn : n ≤ 12) (ht : ∀ j, t j ≤ 1000000) (hct : lc_ct ct nt n t) (hr : r < R) (hs : s < e) (he : e ≤ n) (hp : post (lN (lc_w q w t r 3 s e))) : wpY_ruleSpanCount post ((nI nt), (nI tm), (nI R), (nI n), yP, yC, yK, yM, yL, yA, yB, yD, yE, yF, yG, (lc_ra q 0), (lc_ra q 1), (lc_ra q 2), (lc_ra q 3), w, ct, mk, pR, pS, pE, pD, sS, sB, sE, sD, sK) (nI r) (nI s) (nI e) := by
  unfold wpY_ruleSpanCount
  have r1 := lc_G_r hG hr 1 (by omega)
  have r2 := lc_G_r hG hr 2 (by omega)
  have h1 := (lc_G_16 hG hr).1
  have h23 := (lc_G_16 hG hr).2
  have hv : vp_in (nI r) 24 := vp_in_nI (by omega) (by omega)
  have e1 : lc_ra q 1 r = nI (q r 1) := lc_cd_n h1
  refine ⟨hv, ?_⟩
  rw [nI_clamp (by omega), e1]
  refine lc_if (c := lc_ra q 2 r = -1) (lc_cd_e r2) (fun z => ⟨hv, ?_⟩) (fun z => ?_)
  · refine ly_sym hG.1 hn hct (by omega) (lc_G_8 hG hr 1 (by omega)) hs he ?_
    have ew : lc_w q w t r 3 s e = lc_y w t (q r 1) s e := lc_w_l (j := 2) ht (fun i hi => by
      have : i = 0 ∨ i = 1 := by omega
      rcases this with rfl | rfl
      · exact h23 z
      · exact z) h1 hs
    rw [ew] at hp
    exact hp
  · have ew : lc_w q w t r 3 s e = lc_cp (lc_S (fun k => lc_y w t (q r 1) s k * lc_w q w t r 2 k e) (s + 1) e) := lc_w_m (j := 1) h1 z hs
    rw [ew] at hp
    refine nm_r (nI_1 s) ⟨e - (s + 1) + 1, ?_⟩
    have H := ly_rs31 (nt := nt) (tm := tm) (R := R) (n := n) (q := q) (w := w) (t := t) (yP := yP) (yC := yC) (yK := yK) (yM := yM) (yL := yL) (yA := yA) (yB := yB) (yD := yD) (yE := yE) (yF := yF) (yG := yG) (ct := ct) (mk := mk) (pR := pR) (pS := pS) (pE := pE) (pD := pD) (sS := sS) (sB := sB) (sE := sE) (sD := sD) (sK := sK) hG h24 hn ht hct hr z he hp (e - (s + 1)) (s + 1) (by omega) (Nat.le_refl _)
    rw [lc_S_0 (Nat.le_refl _)] at H
    exact H
theorem ly_nt6 {post : Int64 → Prop} {x s e : Nat} (hG : lc_G nt tm R q) (h24 : R ≤ 24) (hn : n ≤ 12) (ht : ∀ j, t j ≤ 1000000) (hct : lc_ct ct nt n t) (hx : x < 8) (hs : s < e) (he : e ≤ n) (hp : post (lN (lc_n q w t R x s e))) :
    ∀ d i, i + d = R → wY_ntCount_6 post (nI x) (nI s) (nI e) (nI nt) (nI tm) (nI R) (nI n) yP yC yK yM yL yA yB yD yE yF yG (lc_ra q 0) (lc_ra q 1) (lc_ra q 2) (lc_ra q 3) w ct mk pR pS pE pD sS sB sE sD sK (d + 1) (lN (lc_cp (lc_S (lc_g q w t x s e) 0 i))) (nI i) := by
  intro d
  induction d with
  | zero =>
    intro i hi
    obtain rfl : i = R := by omega
    exact br_t (nI_le (Nat.le_refl _) (by omega)) hp
  | succ d ih =>
    intro i hi
    have hr : i < R := by omega
    have h0 := (hG.2.2 i hr).1
    have h8 := hG.1
    have e0 : lc_ra q 0 i = nI (q i 0) := lc_cd_n (by omega)
    have H := ih (i + 1) (by omega)
    rw [lc_S_s (Nat.zero_le i)] at H
    rw [wY_ntCount_6]
    refine br_f (nI_ge hr (by omega)) ⟨vp_in_nI (by omega) (by omega), ?_⟩
    rw [nI_clamp (by omega), e0]
    refine pk_eq (q i 0) x (fun z => ?_) (fun z => ?_)
    · refine ly_rs hG h24 hn ht hct hr hs he ?_
      have eg : lc_g q w t x s e i = lc_w q w t i 3 s e := if_pos z
      rw [eg] at H
      refine ly_add (lc_cp_le _) (lc_w_le _ _ _) (nm_r (nI_1 i) ?_)
      rw [lc_cp_a]
      exact H
    · have eg : lc_g q w t x s e i = 0 := if_neg z
      rw [eg, Nat.add_zero] at H
      exact nm_r (nI_1 i) H
theorem ly_nt {post : Int64 → Prop} {x s e : Nat} (hG : lc_G nt tm R q) (h24 : R ≤ 24) (hn : n ≤ 12) (ht : ∀ j, t j ≤ 1000000) (hct : lc_ct ct nt n t) (hx : x < 8) (hs : s < e) (he : e ≤ n) (hp : post (lN (lc_n q w t R x s e))) : wpY_ntCount post ((nI nt), (nI tm), (nI R), (nI n), yP, yC, yK, yM, yL, yA, yB, yD, yE, yF, yG, (lc_ra q 0), (lc_ra q 1), (lc_ra q 2), (lc_ra q 3), w, ct, mk, pR, pS, pE, pD, sS, sB, sE, sD, sK) (nI x) (nI s) (nI e) := by
  unfold wpY_ntCount
  exact ⟨R + 1, ly_nt6 hG h24 hn ht hct hx hs he hp R 0 (by omega)⟩
/-- Y's table as it is filled -/
def lc_cf (ct : Nat → Int64) (t : Nat → Nat) : Prop := ∀ j, j < 1352 → ct j = lN (t j)
theorem lc_cf_ct (h8 : nt ≤ 8) (hn : n ≤ 12) (h : lc_cf ct t) : lc_ct ct nt n t := fun x s e hx hs he => h _ (lc_ix_lt (by omega) (by omega) (by omega))
theorem lc_cf_u {i v : Nat} (h : lc_cf ct t) : lc_cf (vp_updL ct i (lN v)) (lc_up t i v) := by
  intro j hj
  unfold vp_updL lc_up
  split
  · rfl
  · exact h j hj
theorem ly_cs13 {post : SY → Prop} {J2 : lc_JY} {s e L : Nat} (hG : lc_G nt tm R q) (h24 : R ≤ 24) (hn : n ≤ 12) (hA : lc_A R q rk) (hk : ∀ x, x < nt → rk x < nt) (hs : s < e) (he : e ≤ n)
    (hJ : ∀ (ct' : Nat → Int64) (t' : Nat → Nat), (∀ j, t' j ≤ 1000000) → lc_cf ct' t' → lc_D q w R nt n rk s e L nt t' → J2 (nI (L + 1)) (lc_ra q 0) (lc_ra q 1) (lc_ra q 2) (lc_ra q 3) w ct' mk pR pS pE pD sS sB sE sD sK) :
    ∀ d x (ct : Nat → Int64) (t : Nat → Nat), x + d = nt → (∀ j, t j ≤ 1000000) → lc_cf ct t → lc_D q w R nt n rk s e L x t → wY_computeSpan_13 post J2 (nI s) (nI e) (nI L) (nI nt) (nI tm) (nI R) (nI n) yP yC yK yM yL yA yB yD yE yF yG (d + 1) (nI x) (lc_ra q 0) (lc_ra q 1) (lc_ra q 2) (lc_ra q 3) w ct mk pR pS pE pD sS sB sE sD sK := by
  intro d
  induction d with
  | zero =>
    intro x ct t hx ht hc hD
    have h8 := hG.1
    obtain rfl : x = nt := by omega
    rw [wY_computeSpan_13]
    exact br_t (nI_le (Nat.le_refl _) (by omega)) (nm_r (nI_1 L) (hJ ct t ht hc hD))
  | succ d ih =>
    intro x ct t hx ht hc hD
    have h8 := hG.1
    have hl := lc_ix_lt (x := x) (s := s) (e := e) (by omega) (by omega) (by omega)
    rw [wY_computeSpan_13]
    refine br_f (nI_ge (by omega) (by omega)) ?_
    refine ly_nt hG h24 hn ht (lc_cf_ct h8 hn hc) (by omega) hs he ?_
    rw [lc_ixN, nI_clamp (by omega)]
    refine ⟨vp_in_nI hl (by omega), nm_e (nm_r (nI_1 x) (ih (x + 1) _ _ (by omega) (lc_up_le ht (lc_n_le _ _ _)) (lc_cf_u hc) ?_))⟩
    refine lc_D_w hG hA hn (by omega) hs he hD ?_
    by_cases z : L ≤ rk x
    · exact Or.inl z
    · exact Or.inr (hD x s e (by omega) hs he (Or.inr (Or.inr ⟨rfl, rfl, Or.inl (by omega)⟩)))
theorem ly_cs2 {post : SY → Prop} {s e : Nat} (hG : lc_G nt tm R q) (h24 : R ≤ 24) (hn : n ≤ 12) (hA : lc_A R q rk) (hk : ∀ x, x < nt → rk x < nt) (hs : s < e) (he : e ≤ n)
    (hp : ∀ (ct' : Nat → Int64) (t' : Nat → Nat), (∀ j, t' j ≤ 1000000) → lc_cf ct' t' → lc_D q w R nt n rk s e (nt + 1) 0 t' → post ((nI nt), (nI tm), (nI R), (nI n), yP, yC, yK, yM, yL, yA, yB, yD, yE, yF, yG, (lc_ra q 0), (lc_ra q 1), (lc_ra q 2), (lc_ra q 3), w, ct', mk, pR, pS, pE, pD, sS, sB, sE, sD, sK)) :
    ∀ d L (ct : Nat → Int64) (t : Nat → Nat), L + d = nt + 1 → (∀ j, t j ≤ 1000000) → lc_cf ct t → lc_D q w R nt n rk s e L 0 t → wY_computeSpan_2 post (nI s) (nI e) (nI nt) (nI tm) (nI R) (nI n) yP yC yK yM yL yA yB yD yE yF yG (d + 1) (nI L) (lc_ra q 0) (lc_ra q 1) (lc_ra q 2) (lc_ra q 3) w ct mk pR pS pE pD sS sB sE sD sK := by
  intro d
  induction d with
  | zero =>
    intro L ct t hx ht hc hD
    have h8 := hG.1
    obtain rfl : L = nt + 1 := by omega
    rw [wY_computeSpan_2]
    exact br_t (nI_lt (by omega) (by omega)) (hp ct t ht hc hD)
  | succ d ih =>
    intro L ct t hx ht hc hD
    have h8 := hG.1
    rw [wY_computeSpan_2]
    refine br_f (nI_nlt (by omega) (by omega)) ⟨nt + 1, ?_⟩
    exact ly_cs13 hG h24 hn hA hk hs he (fun ct' t' ht' hc' hD' => ih (L + 1) ct' t' (by omega) ht' hc' (lc_D_L hD')) nt 0 ct t (by omega) ht hc hD
theorem ly_cs {post : SY → Prop} {s e : Nat} (hG : lc_G nt tm R q) (h24 : R ≤ 24) (hn : n ≤ 12) (hA : lc_A R q rk) (hk : ∀ x, x < nt → rk x < nt) (hs : s < e) (he : e ≤ n) (ht : ∀ j, t j ≤ 1000000) (hc : lc_cf ct t) (hD : lc_D q w R nt n rk s e 0 0 t)
    (hp : ∀ (ct' : Nat → Int64) (t' : Nat → Nat), (∀ j, t' j ≤ 1000000) → lc_cf ct' t' → lc_D q w R nt n rk s e (nt + 1) 0 t' → post ((nI nt), (nI tm), (nI R), (nI n), yP, yC, yK, yM, yL, yA, yB, yD, yE, yF, yG, (lc_ra q 0), (lc_ra q 1), (lc_ra q 2), (lc_ra q 3), w, ct', mk, pR, pS, pE, pD, sS, sB, sE, sD, sK)) : wpY_computeSpan post ((nI nt), (nI tm), (nI R), (nI n), yP, yC, yK, yM, yL, yA, yB, yD, yE, yF, yG, (lc_ra q 0), (lc_ra q 1), (lc_ra q 2), (lc_ra q 3), w, ct, mk, pR, pS, pE, pD, sS, sB, sE, sD, sK) (nI s) (nI e) := by
  unfold wpY_computeSpan
  exact ⟨nt + 1 + 1, ly_cs2 hG h24 hn hA hk hs he hp (nt + 1) 0 ct t (by omega) ht hc hD⟩
abbrev lc_KY : Type := Int32 → Int32 → Int32 → Int32 → Int32 → Int32 → Int32 → Int32 → Int32 → Int32 → Int32 → Int32 → Int32 → Int64 → Int64 → Int64 → (Nat → Int32) → (Nat → Int32) → (Nat → Int32) → (Nat → Int32) → (Nat → Int32) → (Nat → Int64) → (Nat → Int32) → (Nat → Int32) → (Nat → Int32) → (Nat → Int32) → (Nat → Int32) → (Nat → Int32) → (Nat → Int32) → (Nat → Int32) → (Nat → Int32) → (Nat → Int64) → Prop
theorem ly_pa46 {post : Int32 → SY → Prop} {J36 : lc_KY} {l : Nat} (hG : lc_G nt tm R q) (h24 : R ≤ 24) (hn : n ≤ 12) (hA : lc_A R q rk) (hk : ∀ x, x < nt → rk x < nt) (hl : 1 ≤ l)
    (hJ : ∀ (ct' : Nat → Int64) (t' : Nat → Nat), (∀ j, t' j ≤ 1000000) → lc_cf ct' t' → lc_D q w R nt n rk 0 (l + 1) 0 0 t' → J36 (nI (l + 1)) (nI nt) (nI tm) (nI R) (nI n) yP yC yK yM yL yA yB yD yE yF yG (lc_ra q 0) (lc_ra q 1) (lc_ra q 2) (lc_ra q 3) w ct' mk pR pS pE pD sS sB sE sD sK) :
    ∀ d s (ct : Nat → Int64) (t : Nat → Nat), s + l + d = n + 1 → (∀ j, t j ≤ 1000000) → lc_cf ct t → lc_D q w R nt n rk s (s + l) 0 0 t → wY_parse_46 post J36 (nI l) (d + 1) (nI s) (nI nt) (nI tm) (nI R) (nI n) yP yC yK yM yL yA yB yD yE yF yG (lc_ra q 0) (lc_ra q 1) (lc_ra q 2) (lc_ra q 3) w ct mk pR pS pE pD sS sB sE sD sK := by
  intro d
  induction d with
  | zero =>
    intro s ct t hs ht hc hD
    rw [wY_parse_46]
    exact br_t (by rw [nI_add]; exact nI_lt (by omega) (by omega)) (nm_r (nI_1 l) (hJ ct t ht hc (lc_D_r (by omega) hD)))
  | succ d ih =>
    intro s ct t hs ht hc hD
    rw [wY_parse_46]
    refine br_f (by rw [nI_add]; exact nI_nlt (by omega) (by omega)) ?_
    rw [nI_add]
    refine ly_cs hG h24 hn hA hk (by omega) (by omega) ht hc hD (fun ct' t' ht' hc' hD' => nm_r (nI_1 s) ?_)
    refine ih (s + 1) ct' t' (by omega) ht' hc' ?_
    have := lc_D_e hk (by omega) hD' (by omega)
    rw [show s + 1 + l = s + l + 1 by omega]
    exact this
theorem ly_pa36 {post : Int32 → SY → Prop} (hG : lc_G nt tm R q) (h24 : R ≤ 24) (hn : n ≤ 12) (hn0 : 0 < n) (hA : lc_A R q rk) (hk : ∀ x, x < nt → rk x < nt)
    (hp : ∀ (ct' : Nat → Int64) (t' : Nat → Nat), (∀ j, t' j ≤ 1000000) → lc_cf ct' t' → lc_sat q w R nt n t' → post (nI (lc_rt t' n)) ((nI nt), (nI tm), (nI R), (nI n), 1, (nI (lc_rt t' n)), (-1), 0, yL, yA, yB, yD, yE, yF, yG, (lc_ra q 0), (lc_ra q 1), (lc_ra q 2), (lc_ra q 3), w, ct', mk, pR, pS, pE, pD, sS, sB, sE, sD, sK)) :
    ∀ d l (ct : Nat → Int64) (t : Nat → Nat), l + d = n + 1 → 1 ≤ l → (∀ j, t j ≤ 1000000) → lc_cf ct t → lc_D q w R nt n rk 0 l 0 0 t → wY_parse_36 post (d + 1) (nI l) (nI nt) (nI tm) (nI R) (nI n) yP yC yK yM yL yA yB yD yE yF yG (lc_ra q 0) (lc_ra q 1) (lc_ra q 2) (lc_ra q 3) w ct mk pR pS pE pD sS sB sE sD sK := by
  intro d
  induction d with
  | zero =>
    intro l ct t hl h1 ht hc hD
    obtain rfl : l = n + 1 := by omega
    have H := hp ct t ht hc (lc_D_sat hD)
    have ex : lc_ix 0 0 n = n := by unfold lc_ix; omega
    have er : lc_rt t n = t n := by unfold lc_rt; rw [if_neg (by omega), ex]
    rw [er] at H
    rw [wY_parse_36]
    refine br_t (nI_lt (by omega) (by omega)) ⟨vp_in_nI (by omega) (by omega), ?_⟩
    rw [nI_clamp (by omega), hc n (by omega), lN_i]
    exact nm_e H
  | succ d ih =>
    intro l ct t hl h1 ht hc hD
    rw [wY_parse_36]
    refine br_f (nI_nlt (by omega) (by omega)) ⟨n + 1 - l + 1, ?_⟩
    refine ly_pa46 hG h24 hn hA hk h1 (fun ct' t' ht' hc' hD' => ih (l + 1) ct' t' (by omega) (by omega) ht' hc' hD') (n + 1 - l) 0 ct t (by omega) ht hc ?_
    rw [Nat.zero_add]; exact hD
theorem ly_pa2 {post : Int32 → SY → Prop} (hG : lc_G nt tm R q) (h24 : R ≤ 24) (hn : n ≤ 12) (hA : lc_A R q rk) (hk : ∀ x, x < nt → rk x < nt)
    (hp : ∀ (ct' : Nat → Int64) (t' : Nat → Nat), (∀ j, t' j ≤ 1000000) → lc_cf ct' t' → lc_sat q w R nt n t' → post (nI (lc_rt t' n)) ((nI nt), (nI tm), (nI R), (nI n), 1, (nI (lc_rt t' n)), (-1), 0, yL, yA, yB, yD, yE, yF, yG, (lc_ra q 0), (lc_ra q 1), (lc_ra q 2), (lc_ra q 3), w, ct', mk, pR, pS, pE, pD, sS, sB, sE, sD, sK)) :
    ∀ d k (ct : Nat → Int64), k + d = 1352 → (∀ j, j < k → ct j = lN 0) → wY_parse_2 post (nI nt) (nI tm) (nI R) (nI n) yP yC yK yM yL yA yB yD yE yF yG (d + 1) (nI k) (lc_ra q 0) (lc_ra q 1) (lc_ra q 2) (lc_ra q 3) w ct mk pR pS pE pD sS sB sE sD sK := by
  intro d
  induction d with
  | zero =>
    intro k ct hk' hc
    obtain rfl : k = 1352 := by omega
    have hc' : lc_cf ct (fun _ => 0) := hc
    rw [wY_parse_2]
    refine br_t (by decide) ?_
    refine lc_if (lc_0le (by omega)) (fun z => ?_) (fun z => ?_)
    · have H := hp ct (fun _ => 0) (fun _ => by omega) hc' (fun x s e _ h1 h2 => by omega)
      have er : lc_rt (fun _ => 0) n = 0 := if_pos z
      rw [er] at H
      exact H
    · exact ⟨n + 1, ly_pa36 hG h24 hn (by omega) hA hk hp n 1 ct (fun _ => 0) (by omega) (by omega) (fun _ => by omega) hc' lc_D_0⟩
  | succ d ih =>
    intro k ct hk' hc
    rw [wY_parse_2]
    refine br_f (nI_ge (b := 1352) (by omega) (by decide)) ⟨vp_in_nI (by omega) (by omega), nm_e (nm_r (nI_1 k) (ih (k + 1) _ (by omega) ?_))⟩
    intro j hj
    rw [nI_clamp (by omega)]
    by_cases z : j = k
    · subst z; exact pk_uLs
    · rw [pk_uLn z]; exact hc j (by omega)
theorem ly_parse {post : Int32 → SY → Prop} (hG : lc_G nt tm R q) (h24 : R ≤ 24) (hn : n ≤ 12) (hA : lc_A R q rk) (hk : ∀ x, x < nt → rk x < nt)
    (hp : ∀ (ct' : Nat → Int64) (t' : Nat → Nat), (∀ j, t' j ≤ 1000000) → lc_cf ct' t' → lc_sat q w R nt n t' → post (nI (lc_rt t' n)) ((nI nt), (nI tm), (nI R), (nI n), 1, (nI (lc_rt t' n)), (-1), 0, yL, yA, yB, yD, yE, yF, yG, (lc_ra q 0), (lc_ra q 1), (lc_ra q 2), (lc_ra q 3), w, ct', mk, pR, pS, pE, pD, sS, sB, sE, sD, sK)) : wpY_parse post ((nI nt), (nI tm), (nI R), (nI n), yP, yC, yK, yM, yL, yA, yB, yD, yE, yF, yG, (lc_ra q 0), (lc_ra q 1), (lc_ra q 2), (lc_ra q 3), w, ct, mk, pR, pS, pE, pD, sS, sB, sE, sD, sK) := by
  unfold wpY_parse
  exact ⟨1353, ly_pa2 hG h24 hn hA hk hp 1352 0 ct (by omega) (fun j hj => by omega)⟩
end LYB
