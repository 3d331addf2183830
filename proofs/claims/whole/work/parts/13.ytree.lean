section LYD
variable {q : Nat → Nat → Nat} {w : Nat → Int32} {t : Nat → Nat} {nt tm R n : Nat} {rk : Nat → Nat}
variable {yP yC yK yM yL yA yB yD : Int32} {yE yF yG : Int64} {ct sK : Nat → Int64} {mk pR pS pE pD sS sB sE sD : Nat → Int32}
theorem ly_se56 {post : Int32 → SY → Prop} {rank : Int32} {Lf : List lc_N} (hG : lc_G nt tm R q) (h24 : R ≤ 24) (hn : n ≤ 12) (ht : ∀ j, t j ≤ 1000000) (hct : lc_ct ct nt n t) (hS : lc_sat q w R nt n t) (hA : lc_A R q rk) (hk : ∀ x, x < nt → rk x < nt)
    (hp : ∀ (yL' yA' yB' yD' : Int32) (yE' yF' yG' : Int64) (pR' pS' pE' pD' sS' sB' sE' sD' : Nat → Int32) (sK' : Nat → Int64), lc_nd pR' pS' pE' pD' Lf → post (nI Lf.length) ((nI nt), (nI tm), (nI R), (nI n), yP, yC, rank, (nI Lf.length), yL', yA', yB', yD', yE', yF', yG', (lc_ra q 0), (lc_ra q 1), (lc_ra q 2), (lc_ra q 3), w, ct, mk, pR', pS', pE', pD', sS', sB', sE', sD', sK')) :
    ∀ N f (out : List lc_N) (st : List lc_E) (yA yB yD : Int32) (yE yF yG : Int64) (pR pS pE pD sS sB sE sD : Nat → Int32) (sK : Nat → Int64), lc_ev t nt n st → lc_nd pR pS pE pD out → lc_ys sS sB sE sD sK st → out.length + lc_mu rk st ≤ 256 → lc_mu rk st ≤ f → lc_mu rk st < N → out ++ lc_run q w t R f st = Lf → wY_selectTree_56 post rank N (nI out.length) (nI out.length) (nI nt) (nI tm) (nI R) (nI n) yP yC yK yM (nI st.length) yA yB yD yE yF yG (lc_ra q 0) (lc_ra q 1) (lc_ra q 2) (lc_ra q 3) w ct mk pR pS pE pD sS sB sE sD sK := by
  intro N
  induction N with
  | zero => intro f out st yA yB yD yE yF yG pR pS pE pD sS sB sE sD sK _ _ _ _ _ h; omega
  | succ N ih =>
    intro f out st yA yB yD yE yF yG pR pS pE pD sS sB sE sD sK hev hnd hys hmu hf hN hL
    cases st with
    | nil =>
      rw [lc_run_n, List.append_nil] at hL
      subst hL
      have H := hp (nI 0) yA yB yD yE yF yG pR pS pE pD sS sB sE sD sK hnd
      rw [wY_selectTree_56]
      refine br_c (fun _ => H) (fun _ => br_t ?_ H)
      show nI 0 ≤ 0
      decide
    | cons a st =>
      obtain ⟨x, s, e, k, d⟩ := a
      obtain ⟨o1, o2⟩ := lc_en_ok hG hA hk hS hev
      have hlen0 := lc_mu_len (rk := rk) _ o1
      have hlen : (lc_kd q w t (lc_pk q w t R x s e k).1 3 s e (lc_pk q w t R x s e k).2 (d + 1) ++ st).length ≤ 255 := Nat.le_trans hlen0 (by omega)
      clear hlen0
      obtain ⟨hve, hev'⟩ := hev
      obtain ⟨p1, p2⟩ := lc_pk_ok hG hS hve
      obtain ⟨⟨g1, g2, g3, g4, g5⟩, hys'⟩ := hys
      have hse := hve.2.1
      have hmu2 : 2 ≤ lc_mu rk ((x, s, e, k, d) :: st) := by rw [lc_mu_c]; omega
      obtain ⟨f', rfl⟩ : ∃ f', f = f' + 1 := ⟨f - 1, by omega⟩
      rw [lc_run_s] at hL
      rw [List.length_append] at hlen
      have hi : vp_in (nI st.length) 256 := vp_in_nI (by omega) (by omega)
      have hcl : (nI st.length).toNatClampNeg = st.length := nI_clamp (by omega)
      have hio : vp_in (nI out.length) 256 := vp_in_nI (by omega) (by omega)
      have hcl2 : (nI out.length).toNatClampNeg = out.length := nI_clamp (by omega)
      rw [← hcl] at g1 g2 g3 g4 g5
      rw [wY_selectTree_56]
      refine br_f (nI_ge (b := 256) (by omega) (by decide)) (br_f (nI_nle (n := st.length + 1) (by omega) (by omega)) ?_)
      refine nm_r (nI_pred st.length) ⟨hi, nm_r g2 ⟨hi, nm_r g3 ⟨hi, nm_r g4 ⟨hi, hi, ?_⟩⟩⟩⟩
      rw [g1, g5]
      have H : ∀ r b, (r, b) = lc_pk q w t R x s e k → ∀ (st2 : List lc_E), st2 = lc_kd q w t r 3 s e b (d + 1) ++ st → ∀ (yA yB yD : Int32) (yE yF yG : Int64) (sS sB sE sD : Nat → Int32) (sK : Nat → Int64), lc_ys sS sB sE sD sK st2 → wY_selectTree_56 post rank N (nI (out.length + 1)) (nI (out.length + 1)) (nI nt) (nI tm) (nI R) (nI n) yP yC yK yM (nI st2.length) yA yB yD yE yF yG (lc_ra q 0) (lc_ra q 1) (lc_ra q 2) (lc_ra q 3) w ct mk (upd pR out.length (nI r)) (upd pS out.length (nI s)) (upd pE out.length (nI e)) (upd pD out.length (nI d)) sS sB sE sD sK := by
        intro r b hrb st2 hst2 yA yB yD yE yF yG sS sB sE sD sK hy
        rw [← hrb] at hL o1 o2
        dsimp only at hL o1 o2
        rw [← hst2] at hL o1 o2
        have H := ih f' (out ++ [(r, s, e, d)]) st2 yA yB yD yE yF yG _ _ _ _ sS sB sE sD sK o1 (lc_nd_a hnd) hy ?_ (by omega) (by omega) ?_
        · rw [List.length_append] at H
          exact H
        · rw [List.length_append]
          show out.length + 1 + _ ≤ 256
          omega
        · rw [← hL, List.append_assoc]
          rfl
      have e1 : nI d + 1 = nI (d + 1) := nI_1 d
      refine ly_choose hG h24 hn ht hct hS hve (fun r b hrb z2 => ?_) (fun r b hrb z2 z3 => ?_) (fun r b hrb z2 z3 m1 b1 hm1 m2 b2 hm2 => ?_)
      · have H1 := H r b hrb
        rw [← hrb] at p2 hlen
        dsimp only at p2 hlen
        have hr := p2.1
        have h1 := (lc_G_16 hG hr).1
        have r1 := lc_G_r hG hr 1 (by omega)
        have h3 := (lc_G_16 hG hr).2 z2
        have hv24 : vp_in (nI r) 24 := vp_in_nI (by omega) (by omega)
        have ek : lc_kd q w t r 3 s e b (d + 1) = lc_k1 (q r 1) s e b (d + 1) := lc_kd_l (j := 2) hG p2 (fun i hi => by
          have : i = 0 ∨ i = 1 := by omega
          rcases this with rfl | rfl
          · exact h3
          · exact z2)
        rw [ek] at H1 hlen
        refine ⟨hio, nm_r (e' := upd pR out.length (nI r)) (by rw [hcl2]) ⟨hio, nm_r (e' := upd pS out.length (nI s)) (by rw [hcl2]) ⟨hio, nm_r (e' := upd pE out.length (nI e)) (by rw [hcl2]) ⟨hio, nm_r (e' := upd pD out.length (nI d)) (by rw [hcl2]) (nm_r (nI_1 _) (br_t (nI_pos' (by omega)) ⟨hv24, ?_⟩))⟩⟩⟩⟩
        rw [nI_clamp (n := r) (by omega)]
        refine br_t (show lc_cd (q r 2) = -1 by rw [z2]; exact lc_cd_16) ⟨hv24, ?_⟩
        have ea : lc_ra q 1 r = nI (q r 1) := lc_cd_n h1
        rw [ea, e1]
        refine ly_push (by omega) (by omega) hys' (fun sS' sB' sE' sD' sK' hy' => nm_r (nI_1 _) ?_)
        exact H1 _ rfl _ _ _ _ _ _ _ _ _ _ _ hy'
      · have H1 := H r b hrb
        rw [← hrb] at p2 hlen
        dsimp only at p2 hlen
        have hr := p2.1
        have h1 := (lc_G_16 hG hr).1
        have r1 := lc_G_r hG hr 1 (by omega)
        have r2 := lc_G_r hG hr 2 (by omega)
        have hv24 : vp_in (nI r) 24 := vp_in_nI (by omega) (by omega)
        obtain ⟨k1, hv1⟩ := lc_kd_n (d := d + 1) (j := 1) hG p2 z2
        have k2 := lc_kd_l (d := d + 1) (j := 1) hG hv1 (fun i hi => by obtain rfl : i = 0 := (by omega); exact z3)
        have ek : lc_kd q w t r 3 s e b (d + 1) = lc_k1 (q r 1) s (lc_m q w t r 2 s e b).1 ((lc_m q w t r 2 s e b).2 / lc_w q w t r 2 (lc_m q w t r 2 s e b).1 e) (d + 1) ++ lc_k1 (q r 2) (lc_m q w t r 2 s e b).1 e ((lc_m q w t r 2 s e b).2 % lc_w q w t r 2 (lc_m q w t r 2 s e b).1 e) (d + 1) := k1.trans (congrArg _ k2)
        rw [ek] at H1 hlen
        rw [List.append_assoc] at H1
        rw [List.length_append] at hlen
        refine ⟨hio, nm_r (e' := upd pR out.length (nI r)) (by rw [hcl2]) ⟨hio, nm_r (e' := upd pS out.length (nI s)) (by rw [hcl2]) ⟨hio, nm_r (e' := upd pE out.length (nI e)) (by rw [hcl2]) ⟨hio, nm_r (e' := upd pD out.length (nI d)) (by rw [hcl2]) (nm_r (nI_1 _) (br_t (nI_pos' (by omega)) ⟨hv24, ?_⟩))⟩⟩⟩⟩
        rw [nI_clamp (n := r) (by omega)]
        refine br_f (fun z => z2 ((lc_cd_e r2).mp z)) ⟨hv24, br_t (show lc_cd (q r 3) = -1 by rw [z3]; exact lc_cd_16) ⟨hv24, ?_⟩⟩
        have ea : lc_ra q 1 r = nI (q r 1) := lc_cd_n h1
        have eb : lc_ra q 2 r = nI (q r 2) := lc_cd_n z2
        rw [eb, e1]
        refine ly_push (by omega) (by omega) hys' (fun sS' sB' sE' sD' sK' hy' => ⟨hv24, ?_⟩)
        rw [ea]
        refine ly_push (by omega) (by rw [List.length_append]; omega) hy' (fun sS2 sB2 sE2 sD2 sK2 hy2 => nm_r (nI_1 _) ?_)
        exact H1 _ rfl _ _ _ _ _ _ _ _ _ _ _ hy2
      · have H1 := H r b hrb
        rw [← hrb] at p2 hlen
        dsimp only at p2 hlen
        have hr := p2.1
        have h1 := (lc_G_16 hG hr).1
        have r1 := lc_G_r hG hr 1 (by omega)
        have r2 := lc_G_r hG hr 2 (by omega)
        have r3 := lc_G_r hG hr 3 (by omega)
        have hv24 : vp_in (nI r) 24 := vp_in_nI (by omega) (by omega)
        obtain ⟨k1, hv1⟩ := lc_kd_n (d := d + 1) (j := 1) hG p2 z2
        have em1 : lc_m q w t r (1 + 1) s e b = (m1, b1) := hm1.symm
        rw [em1] at k1 hv1
        dsimp only at k1 hv1
        obtain ⟨k2, hv2⟩ := lc_kd_n (d := d + 1) (j := 0) hG hv1 z3
        have em2 : lc_m q w t r (0 + 1) m1 e (b1 % lc_w q w t r (1 + 1) m1 e) = (m2, b2) := hm2.symm
        rw [em2] at k2 hv2
        dsimp only at k2 hv2
        have k3 := lc_kd_l (d := d + 1) (j := 0) hG hv2 (fun i hi => by omega)
        have ek : lc_kd q w t r 3 s e b (d + 1) = lc_k1 (q r 1) s m1 (b1 / lc_w q w t r 2 m1 e) (d + 1) ++ (lc_k1 (q r 2) m1 m2 (b2 / lc_w q w t r 1 m2 e) (d + 1) ++ lc_k1 (q r 3) m2 e (b2 % lc_w q w t r 1 m2 e) (d + 1)) := k1.trans (congrArg _ (k2.trans (congrArg _ k3)))
        rw [ek] at H1 hlen
        rw [List.append_assoc, List.append_assoc] at H1
        rw [List.length_append, List.length_append] at hlen
        refine ⟨hio, nm_r (e' := upd pR out.length (nI r)) (by rw [hcl2]) ⟨hio, nm_r (e' := upd pS out.length (nI s)) (by rw [hcl2]) ⟨hio, nm_r (e' := upd pE out.length (nI e)) (by rw [hcl2]) ⟨hio, nm_r (e' := upd pD out.length (nI d)) (by rw [hcl2]) (nm_r (nI_1 _) (br_t (nI_pos' (by omega)) ⟨hv24, ?_⟩))⟩⟩⟩⟩
        rw [nI_clamp (n := r) (by omega)]
        refine br_f (fun z => z2 ((lc_cd_e r2).mp z)) ⟨hv24, br_f (fun z => z3 ((lc_cd_e r3).mp z)) ⟨hv24, ?_⟩⟩
        have ea : lc_ra q 1 r = nI (q r 1) := lc_cd_n h1
        have eb : lc_ra q 2 r = nI (q r 2) := lc_cd_n z2
        have ec : lc_ra q 3 r = nI (q r 3) := lc_cd_n z3
        rw [ec, e1]
        refine ly_push (by omega) (by omega) hys' (fun sS' sB' sE' sD' sK' hy' => ⟨hv24, ?_⟩)
        rw [eb]
        refine ly_push (by omega) (by rw [List.length_append]; omega) hy' (fun sS2 sB2 sE2 sD2 sK2 hy2 => ⟨hv24, ?_⟩)
        rw [ea]
        refine ly_push (by omega) (by rw [List.length_append, List.length_append]; omega) hy2 (fun sS3 sB3 sE3 sD3 sK3 hy3 => nm_r (nI_1 _) ?_)
        exact H1 _ rfl _ _ _ _ _ _ _ _ _ _ _ hy3
theorem ly_select {post : Int32 → SY → Prop} {c k : Nat} (hG : lc_G nt tm R q) (h24 : R ≤ 24) (h1 : 1 ≤ nt) (hn : n ≤ 12) (ht : ∀ j, t j ≤ 1000000) (hct : lc_ct ct nt n t) (hS : lc_sat q w R nt n t) (hA : lc_A R q rk) (hk : ∀ x, x < nt → rk x < nt) (hc : c = lc_rt t n) (hC : c < 1000000) (hkc : k < c)
    (hp : ∀ (yL' yA' yB' yD' : Int32) (yE' yF' yG' : Int64) (pR' pS' pE' pD' sS' sB' sE' sD' : Nat → Int32) (sK' : Nat → Int64), lc_nd pR' pS' pE' pD' (lc_tree q w t R n k) → post (nI (lc_tree q w t R n k).length) ((nI nt), (nI tm), (nI R), (nI n), 1, (nI c), (nI k), (nI (lc_tree q w t R n k).length), yL', yA', yB', yD', yE', yF', yG', (lc_ra q 0), (lc_ra q 1), (lc_ra q 2), (lc_ra q 3), w, ct, mk, pR', pS', pE', pD', sS', sB', sE', sD', sK')) :
    wpY_selectTree post ((nI nt), (nI tm), (nI R), (nI n), 1, (nI c), yK, yM, yL, yA, yB, yD, yE, yF, yG, (lc_ra q 0), (lc_ra q 1), (lc_ra q 2), (lc_ra q 3), w, ct, mk, pR, pS, pE, pD, sS, sB, sE, sD, sK) (nI k) := by
  have hv := lc_root h1 hc hC hkc
  have hk0 := hk 0 h1
  have h8 := hG.1
  have hv' := hv
  obtain ⟨v1, v2, v3, -, -⟩ := hv'
  unfold wpY_selectTree
  refine br_f (by decide) (br_f ?_ (br_f (nI_pos (by omega)) (br_t (nI_lt hkc (by omega)) ?_)))
  · intro z
    have := (nI_eq (a := c) (b := 1000000) (by omega) (by decide)).mp z
    omega
  · rw [nI_l (by omega)]
    refine ly_push (c := 0) (s := 0) (e := n) (k := k) (d := 0) (st := []) (by omega) (by decide) True.intro (fun sS' sB' sE' sD' sK' hy => ⟨257, ?_⟩)
    have hmu : lc_mu rk [(0, 0, n, k, 0)] = 17 * (n - 0) - 15 + rk 0 + 0 := rfl
    refine ly_se56 (Lf := lc_tree q w t R n k) (rk := rk) hG h24 hn ht hct hS hA hk hp 257 256 [] [(0, 0, n, k, 0)] yA yB yD yE yF yG pR pS pE pD sS' sB' sE' sD' sK' ⟨hv, True.intro⟩ lc_nd_0 hy ?_ ?_ ?_ rfl
    · rw [hmu]; show 0 + _ ≤ 256; omega
    · rw [hmu]; omega
    · rw [hmu]; omega
end LYD
