section LPA
variable {q : Nat → Nat → Nat} {w : Nat → Int32} {t t' : Nat → Nat} {nt tm R n : Nat} {rk : Nat → Nat}
/-! A: two tables that agree give the same trees -/
def lc_ag (nt n : Nat) (t t' : Nat → Nat) : Prop := ∀ x s e, x < nt → s < e → e ≤ n → t (lc_ix x s e) = t' (lc_ix x s e)
theorem lc_f_c {f g : Nat → Nat} : ∀ m a k, (∀ i, a ≤ i → i < a + m → f i = g i) → lc_f f m a k = lc_f g m a k := by
  intro m
  induction m with
  | zero => intro a k _; rfl
  | succ m ih =>
    intro a k h
    have e := h a (Nat.le_refl a) (by omega)
    by_cases c : k < f a
    · rw [lc_f_t c, lc_f_t (by rw [← e]; exact c)]
    · rw [lc_f_n c, lc_f_n (by rw [← e]; exact c), e]
      exact ih (a + 1) _ (fun i h1 h2 => h i (by omega) (by omega))
theorem lc_w_ag (hG : lc_G nt tm R q) (hag : lc_ag nt n t t') {r e : Nat} (hr : r < R) (he : e ≤ n) (j s : Nat) : lc_w q w t r j s e = lc_w q w t' r j s e :=
  lc_w_c (lc_G_8 hG hr) j s e (fun x a b hx _ hab hb => hag x a b hx hab (by omega))
theorem lc_m_ag (hG : lc_G nt tm R q) (hag : lc_ag nt n t t') {r e : Nat} (hr : r < R) (he : e ≤ n) (j s k : Nat) : lc_m q w t r j s e k = lc_m q w t' r j s e k := by
  unfold lc_m
  refine lc_f_c _ _ _ ?_
  intro i h1 h2
  show lc_y w t (q r (3 - j)) s i * lc_w q w t r j i e = lc_y w t' (q r (3 - j)) s i * lc_w q w t' r j i e
  rw [lc_w_ag hG hag hr he j i, lc_y_c (fun h8 => hag _ s i (lc_G_8 hG hr (3 - j) (by omega) h8) (by omega) (by omega))]
theorem lc_pk_ag (hG : lc_G nt tm R q) (hag : lc_ag nt n t t') {x s e k : Nat} (he : e ≤ n) : lc_pk q w t R x s e k = lc_pk q w t' R x s e k := by
  unfold lc_pk
  refine lc_f_c _ _ _ ?_
  intro r h1 h2
  unfold lc_g
  rw [lc_w_ag hG hag (by omega) he 3 s]
theorem lc_kd_ag (hG : lc_G nt tm R q) (hag : lc_ag nt n t t') {r e d : Nat} (hr : r < R) (he : e ≤ n) : ∀ j s k, lc_kd q w t r j s e k d = lc_kd q w t' r j s e k d := by
  intro j
  induction j with
  | zero => intro s k; rfl
  | succ j ih =>
    intro s k
    rw [lc_kd_s, lc_kd_s, lc_m_ag hG hag hr he j s k, lc_w_ag hG hag hr he j, ih]
theorem lc_run_ag (hG : lc_G nt tm R q) (hA : lc_A R q rk) (hk : ∀ x, x < nt → rk x < nt) (hS : lc_sat q w R nt n t) (hag : lc_ag nt n t t') : ∀ f st, lc_ev t nt n st → lc_run q w t R f st = lc_run q w t' R f st := by
  intro f
  induction f with
  | zero => intro st _; rfl
  | succ f ih =>
    intro st h
    cases st with
    | nil => rfl
    | cons a l =>
      obtain ⟨x, s, e, k, d⟩ := a
      obtain ⟨o1, -⟩ := lc_en_ok hG hA hk hS h
      have he := h.1.2.2.1
      obtain ⟨-, p2⟩ := lc_pk_ok hG hS h.1
      have e1 := ih _ o1
      rw [lc_run_s, lc_run_s, e1, lc_pk_ag hG hag he, lc_kd_ag hG hag (by rw [← lc_pk_ag hG hag he]; exact p2.1) he]
/-! B: fuel, and stacks one upon the other -/
theorem lc_mu_2 {x s e k d : Nat} {l : List lc_E} (h : lc_ev t nt n ((x, s, e, k, d) :: l)) : 2 ≤ lc_mu rk ((x, s, e, k, d) :: l) := by
  have := h.1.2.1
  rw [lc_mu_c]; omega
theorem lc_run_fu (hG : lc_G nt tm R q) (hA : lc_A R q rk) (hk : ∀ x, x < nt → rk x < nt) (hS : lc_sat q w R nt n t) : ∀ f g st, lc_ev t nt n st → lc_mu rk st ≤ f → lc_mu rk st ≤ g → lc_run q w t R f st = lc_run q w t R g st := by
  intro f
  induction f with
  | zero =>
    intro g st h h1 h2
    cases st with
    | nil => rw [lc_run_n, lc_run_n]
    | cons a l =>
      obtain ⟨x, s, e, k, d⟩ := a
      have := lc_mu_2 (rk := rk) h
      omega
  | succ f ih =>
    intro g st h h1 h2
    cases st with
    | nil => rw [lc_run_n, lc_run_n]
    | cons a l =>
      obtain ⟨x, s, e, k, d⟩ := a
      have := lc_mu_2 (rk := rk) h
      obtain ⟨o1, o2⟩ := lc_en_ok hG hA hk hS h
      obtain ⟨g', rfl⟩ : ∃ g', g = g' + 1 := ⟨g - 1, by omega⟩
      rw [lc_run_s, lc_run_s, ih g' _ o1 (by omega) (by omega)]
theorem lc_run_ap (hG : lc_G nt tm R q) (hA : lc_A R q rk) (hk : ∀ x, x < nt → rk x < nt) (hS : lc_sat q w R nt n t) : ∀ f st st', lc_ev t nt n st → lc_ev t nt n st' → lc_mu rk st + lc_mu rk st' ≤ f → lc_run q w t R f (st ++ st') = lc_run q w t R f st ++ lc_run q w t R f st' := by
  intro f
  induction f with
  | zero =>
    intro st st' h h' hm
    rfl
  | succ f ih =>
    intro st st' h h' hm
    cases st with
    | nil => rw [lc_run_n]; rfl
    | cons a l =>
      obtain ⟨x, s, e, k, d⟩ := a
      obtain ⟨o1, o2⟩ := lc_en_ok hG hA hk hS h
      rw [List.cons_append, lc_run_s, lc_run_s, ← List.append_assoc, ih _ st' o1 h' (by omega), List.cons_append, lc_run_fu hG hA hk hS (f + 1) f st' h' (by omega) (by omega)]
/-! C: depths -/
theorem lc_kd_d {r e d : Nat} : ∀ j s k, ∀ y ∈ lc_kd q w t r j s e k d, y.2.2.2.2 = d := by
  intro j
  induction j with
  | zero => intro s k y hy; cases hy
  | succ j ih =>
    intro s k y hy
    rw [lc_kd_s] at hy
    rcases List.mem_append.mp hy with h | h
    · unfold lc_k1 at h
      split at h
      · rw [List.mem_singleton] at h
        rw [h]
      · cases h
    · split at h
      · exact ih _ _ y h
      · cases h
theorem lc_run_d : ∀ f st δ, (∀ y ∈ st, δ ≤ y.2.2.2.2) → ∀ v ∈ lc_run q w t R f st, δ ≤ v.2.2.2 := by
  intro f
  induction f with
  | zero => intro st δ _ v hv; cases hv
  | succ f ih =>
    intro st δ h v hv
    cases st with
    | nil => cases hv
    | cons a l =>
      obtain ⟨x, s, e, k, d⟩ := a
      have hd : δ ≤ d := h _ List.mem_cons_self
      rw [lc_run_s] at hv
      rcases List.mem_cons.mp hv with rfl | hv
      · exact hd
      · refine ih _ δ ?_ v hv
        intro y hy
        rcases List.mem_append.mp hy with h1 | h1
        · rw [lc_kd_d _ _ _ y h1]; omega
        · exact h y (List.mem_cons_of_mem _ h1)
/-- depths do not rise down the stack -/
def lc_so : List lc_E → Prop
  | [] => True
  | (_, _, _, _, d) :: l => (∀ y ∈ l, y.2.2.2.2 ≤ d) ∧ lc_so l
theorem lc_so_k {d : Nat} : ∀ {K l : List lc_E}, (∀ y ∈ K, y.2.2.2.2 = d + 1) → (∀ y ∈ l, y.2.2.2.2 ≤ d) → lc_so l → lc_so (K ++ l) := by
  intro K
  induction K with
  | nil => intro l _ _ h; exact h
  | cons a K ih =>
    intro l h1 h2 h3
    obtain ⟨x, s, e, k, d'⟩ := a
    have hd : d' = d + 1 := h1 _ List.mem_cons_self
    refine ⟨?_, ih (fun y hy => h1 y (List.mem_cons_of_mem _ hy)) h2 h3⟩
    intro y hy
    rcases List.mem_append.mp hy with h | h
    · have := h1 y (List.mem_cons_of_mem _ h); omega
    · have := h2 y h; omega
/-- the machine as it makes node u -/
theorem lc_pos (hG : lc_G nt tm R q) (hA : lc_A R q rk) (hk : ∀ x, x < nt → rk x < nt) (hS : lc_sat q w R nt n t) {st0 : List lc_E} {f0 : Nat} (h0 : lc_ev t nt n st0) (hs0 : lc_so st0) (hf0 : lc_mu rk st0 ≤ f0) : ∀ u, u < (lc_run q w t R f0 st0).length → ∃ x s e k d rest f, lc_ev t nt n ((x, s, e, k, d) :: rest) ∧ lc_so ((x, s, e, k, d) :: rest) ∧ lc_mu rk ((x, s, e, k, d) :: rest) ≤ f + 1 ∧ (lc_run q w t R f0 st0).drop u = lc_run q w t R (f + 1) ((x, s, e, k, d) :: rest) := by
  intro u
  induction u with
  | zero =>
    intro hu
    cases st0 with
    | nil => rw [lc_run_n] at hu; exact absurd hu (Nat.lt_irrefl 0)
    | cons a l =>
      obtain ⟨x, s, e, k, d⟩ := a
      have := lc_mu_2 (rk := rk) h0
      obtain ⟨f, rfl⟩ : ∃ f, f0 = f + 1 := ⟨f0 - 1, by omega⟩
      exact ⟨x, s, e, k, d, l, f, h0, hs0, hf0, rfl⟩
  | succ u ih =>
    intro hu
    obtain ⟨x, s, e, k, d, rest, f, h1, h2, h3, h4⟩ := ih (by omega)
    obtain ⟨o1, o2⟩ := lc_en_ok hG hA hk hS h1
    have h5 : (lc_run q w t R f0 st0).drop (u + 1) = lc_run q w t R f (lc_kd q w t (lc_pk q w t R x s e k).1 3 s e (lc_pk q w t R x s e k).2 (d + 1) ++ rest) := by
      rw [← List.drop_drop, h4, lc_run_s]; rfl
    have h6 : lc_so (lc_kd q w t (lc_pk q w t R x s e k).1 3 s e (lc_pk q w t R x s e k).2 (d + 1) ++ rest) := lc_so_k (lc_kd_d _ _ _) h2.1 h2.2
    have h7 : 0 < ((lc_run q w t R f0 st0).drop (u + 1)).length := by rw [List.length_drop]; omega
    rw [h5] at h7
    generalize hK : lc_kd q w t (lc_pk q w t R x s e k).1 3 s e (lc_pk q w t R x s e k).2 (d + 1) ++ rest = K at *
    cases K with
    | nil => rw [lc_run_n] at h7; exact absurd h7 (Nat.lt_irrefl 0)
    | cons a l =>
      obtain ⟨x', s', e', k', d'⟩ := a
      have := lc_mu_2 (rk := rk) o1
      obtain ⟨f', rfl⟩ : ∃ f', f = f' + 1 := ⟨f - 1, by omega⟩
      exact ⟨x', s', e', k', d', l, f', o1, h6, by omega, h5⟩
/-! D: the order of trees -/
def lc_lx : List lc_N → List lc_N → Prop
  | v :: l, v' :: l' => (v.2.2.1 - v.2.1 < v'.2.2.1 - v'.2.1 ∨ (v.2.2.1 - v.2.1 = v'.2.2.1 - v'.2.1 ∧ v.1 < v'.1)) ∨ (v.2.2.1 - v.2.1 = v'.2.2.1 - v'.2.1 ∧ v.1 = v'.1 ∧ lc_lx l l')
  | _, _ => False
theorem lc_lx_p : ∀ (P : List lc_N) {a b : List lc_N}, lc_lx a b → lc_lx (P ++ a) (P ++ b) := by
  intro P
  induction P with
  | nil => intro a b h; exact h
  | cons v P ih => intro a b h; exact Or.inr ⟨rfl, rfl, ih h⟩
theorem lc_f_mono {f : Nat → Nat} : ∀ m a k k', k < k' → k' < lc_S f a (a + m) → (lc_f f m a k).1 < (lc_f f m a k').1 ∨ ((lc_f f m a k).1 = (lc_f f m a k').1 ∧ (lc_f f m a k).2 < (lc_f f m a k').2) := by
  intro m
  induction m with
  | zero => intro a k k' h h'; rw [lc_S_0 (by omega)] at h'; omega
  | succ m ih =>
    intro a k k' h h'
    by_cases c' : k' < f a
    · rw [lc_f_t c', lc_f_t (by omega)]
      exact Or.inr ⟨rfl, h⟩
    · have hs := lc_S_sub c' (by omega) h'
      rw [show a + (m + 1) = a + 1 + m by omega] at hs
      rw [lc_f_n c']
      by_cases c : k < f a
      · rw [lc_f_t c]
        left
        have := (lc_f_ok m (a + 1) (k' - f a) hs).1
        show a < _
        omega
      · rw [lc_f_n c]
        exact ih (a + 1) (k - f a) (k' - f a) (by omega) hs
theorem lc_w_ee {r e : Nat} : ∀ j, lc_w q w t r j e e ≤ 1 := by
  intro j
  induction j with
  | zero => rw [lc_w_0]; split <;> omega
  | succ j ih =>
    by_cases z : q r (3 - j) = 16
    · rw [lc_w_n z]; exact ih
    · rw [lc_w_z z]; omega
/-- entries of the same place: the lower rank first -/
theorem lc_lx_e (hG : lc_G nt tm R q) (hA : lc_A R q rk) (hk : ∀ x, x < nt → rk x < nt) (hS : lc_sat q w R nt n t) : ∀ N x s e k k' d rest rest' f f', 17 * (e - s) - 15 + rk x ≤ N → k < k' → lc_ev t nt n ((x, s, e, k, d) :: rest) → lc_ev t nt n ((x, s, e, k', d) :: rest') → lc_mu rk ((x, s, e, k, d) :: rest) ≤ f → lc_mu rk ((x, s, e, k', d) :: rest') ≤ f' → lc_lx (lc_run q w t R f ((x, s, e, k, d) :: rest)) (lc_run q w t R f' ((x, s, e, k', d) :: rest')) := by
  intro N
  induction N with
  | zero =>
    intro x s e k k' d rest rest' f f' hN hkk h h' hf hf'
    have := h.1.2.1
    omega
  | succ N ihN =>
    -- tails of the same rule and place
    have T : ∀ j r s e b b' d rest rest' f f', lc_B rk q r j s e ≤ N → b < b' → lc_vt q w t R n r j s e b → lc_vt q w t R n r j s e b' → lc_ev t nt n rest → lc_ev t nt n rest' → lc_mu rk (lc_kd q w t r (j + 1) s e b d ++ rest) ≤ f → lc_mu rk (lc_kd q w t r (j + 1) s e b' d ++ rest') ≤ f' → lc_lx (lc_run q w t R f (lc_kd q w t r (j + 1) s e b d ++ rest)) (lc_run q w t R f' (lc_kd q w t r (j + 1) s e b' d ++ rest')) := by
      intro j
      induction j using Nat.strongRecOn with
      | ind j ihj =>
        intro r s e b b' d rest rest' f f' hB hbb hv hv' hr hr' hf hf'
        obtain ⟨m1, m2, m3, m4⟩ := lc_m_ok hG hv
        obtain ⟨n1, n2, n3, n4⟩ := lc_m_ok hG hv'
        have hk1 := lc_kd_ok (d := d) hG hA hk j s e b hv
        have hk2 := lc_kd_ok (d := d) hG hA hk j s e b' hv'
        have e1 : s + 1 + (e - s) = e + 1 := by have := hv.2.2.1; omega
        have M : (lc_m q w t r j s e b).1 < (lc_m q w t r j s e b').1 ∨ ((lc_m q w t r j s e b).1 = (lc_m q w t r j s e b').1 ∧ (lc_m q w t r j s e b).2 < (lc_m q w t r j s e b').2) := lc_f_mono (f := lc_mf q w t r j s e) (e - s) (s + 1) b b' hbb (by rw [e1]; exact (lc_vt_S hv').1)
        have ev1 := lc_ev_a hk1.1 hr
        have ev2 := lc_ev_a hk2.1 hr'
        have hmid := fun (y : (lc_m q w t r j s e b).1 < e) => lc_m_nx hG hv m1 y m3 m4
        have hmid' := fun (y : (lc_m q w t r j s e b').1 < e) => lc_m_nx hG hv' n1 y n3 n4
        have hch := fun (h8 : q r (3 - j) < 8) => lc_m_ch hG hv m1 m2 m3 m4 h8
        rw [lc_kd_s] at ev1 hf ⊢
        rw [lc_kd_s] at ev2 hf' ⊢
        rw [List.append_assoc] at ev1 hf ⊢
        rw [List.append_assoc] at ev2 hf' ⊢
        generalize lc_m q w t r j s e b = p at *
        generalize lc_m q w t r j s e b' = p' at *
        obtain ⟨m, bm⟩ := p
        obtain ⟨m', bm'⟩ := p'
        dsimp only at *
        have hp := lc_mp (Nat.lt_of_le_of_lt (Nat.zero_le _) m3)
        have hp' := lc_mp (Nat.lt_of_le_of_lt (Nat.zero_le _) n3)
        by_cases h8 : q r (3 - j) < 8
        · have e2 : ∀ a c d', lc_k1 (q r (3 - j)) s a c d' = [(q r (3 - j), s, a, c, d')] := fun a c d' => if_pos h8
          rw [e2, List.cons_append, List.nil_append] at ev1 hf ev2 hf'
          rw [e2, e2, List.cons_append, List.nil_append, List.cons_append, List.nil_append]
          rcases M with M | ⟨rfl, M⟩
          · have a2 := lc_mu_2 (rk := rk) ev1
            have b2 := lc_mu_2 (rk := rk) ev2
            obtain ⟨g, rfl⟩ : ∃ g, f = g + 1 := ⟨f - 1, by omega⟩
            obtain ⟨g', rfl⟩ : ∃ g', f' = g' + 1 := ⟨f' - 1, by omega⟩
            rw [lc_run_s, lc_run_s]
            exact Or.inl (Or.inl (show m - s < m' - s by omega))
          · have hle : bm / lc_w q w t r j m e ≤ bm' / lc_w q w t r j m e := Nat.div_le_div_right (by omega)
            by_cases hlt : bm / lc_w q w t r j m e < bm' / lc_w q w t r j m e
            · refine ihN _ _ _ _ _ _ _ _ f f' ?_ hlt ev1 ev2 hf hf'
              by_cases y : m < e
              · obtain ⟨j', rfl, -⟩ := hmid y
                have := lc_B_mid hG hk hv.1 hv.2.1 m1 y h8
                omega
              · obtain rfl : m = e := by omega
                have := lc_B_end hG hA hk hv.1 hv.2.1 hv.2.2.1 hp.2 h8
                omega
            · have heq : bm / lc_w q w t r j m e = bm' / lc_w q w t r j m e := by omega
              have hmod : bm % lc_w q w t r j m e < bm' % lc_w q w t r j m e := by
                have d1 := Nat.div_add_mod bm (lc_w q w t r j m e)
                have d2 := Nat.div_add_mod bm' (lc_w q w t r j m e)
                rw [heq] at d1
                omega
              have y : m < e := by
                refine Nat.lt_of_le_of_ne m2 ?_
                intro z
                rw [z] at hmod hp
                have := lc_w_ee (q := q) (w := w) (t := t) (r := r) (e := e) j
                have e3 : lc_w q w t r j e e = 1 := by omega
                rw [e3, Nat.mod_one, Nat.mod_one] at hmod
                omega
              obtain ⟨j', rfl, hv1⟩ := hmid y
              obtain ⟨j2, e4, hv2⟩ := hmid' y
              obtain rfl : j2 = j' := by omega
              rw [if_pos y] at ev1 hf ev2 hf'
              rw [if_pos y, if_pos y]
              rw [← heq] at ev2 hf' ⊢
              have hBm := lc_B_mid hG hk hv.1 hv.2.1 m1 y h8
              rw [lc_mu_c] at hf hf'
              have hA1 : lc_ev t nt n [(q r (3 - (j2 + 1)), s, m, bm / lc_w q w t r (j2 + 1) m e, d)] := ⟨ev1.1, True.intro⟩
              have hmA : lc_mu rk [(q r (3 - (j2 + 1)), s, m, bm / lc_w q w t r (j2 + 1) m e, d)] = 17 * (m - s) - 15 + rk (q r (3 - (j2 + 1))) + 0 := rfl
              have s1 := lc_run_ap hG hA hk hS f [(q r (3 - (j2 + 1)), s, m, bm / lc_w q w t r (j2 + 1) m e, d)] _ hA1 ev1.2 (by rw [hmA]; omega)
              have s2 := lc_run_ap hG hA hk hS f' [(q r (3 - (j2 + 1)), s, m, bm / lc_w q w t r (j2 + 1) m e, d)] _ hA1 ev2.2 (by rw [hmA]; omega)
              rw [List.cons_append, List.nil_append] at s1 s2
              rw [s1, s2, lc_run_fu hG hA hk hS f' f _ hA1 (by rw [hmA]; omega) (by rw [hmA]; omega)]
              refine lc_lx_p _ ?_
              exact ihj j2 (by omega) r m e _ _ d rest rest' f f' (by omega) hmod hv1 hv2 hr hr' (by omega) (by omega)
        · have e2 : ∀ a c d', lc_k1 (q r (3 - j)) s a c d' = [] := fun a c d' => if_neg h8
          rw [e2, List.nil_append] at ev1 hf ev2 hf'
          rw [e2, e2, List.nil_append, List.nil_append]
          have z1 := lc_m_te h8 hp.1
          have z2 := lc_m_te h8 hp'.1
          have hm : m = m' := by omega
          subst hm
          have hb2 : bm < bm' := by
            rcases M with M | M
            · omega
            · exact M.2
          have y1 : lc_y w t (q r (3 - j)) s m = 1 := by
            have h0 := hp.1
            unfold lc_y at h0 ⊢
            rw [if_neg h8] at h0 ⊢
            split at h0
            · rw [if_pos (by assumption)]
            · omega
          rw [y1, Nat.one_mul] at m3 n3
          have hmod : bm % lc_w q w t r j m e < bm' % lc_w q w t r j m e := by
            rw [Nat.mod_eq_of_lt m3, Nat.mod_eq_of_lt n3]; exact hb2
          have y : m < e := by
            refine Nat.lt_of_le_of_ne m2 ?_
            intro z
            rw [z] at hmod
            have e3 : lc_w q w t r j e e = 1 := by
              have := lc_w_ee (q := q) (w := w) (t := t) (r := r) (e := e) j
              have h0 := hp.2
              rw [z] at h0
              omega
            rw [e3, Nat.mod_one, Nat.mod_one] at hmod
            omega
          obtain ⟨j', rfl, hv1⟩ := hmid y
          obtain ⟨j2, e4, hv2⟩ := hmid' y
          obtain rfl : j2 = j' := by omega
          rw [if_pos y] at ev1 hf ev2 hf'
          rw [if_pos y, if_pos y]
          have hBt := lc_B_ter (rk := rk) (q := q) (r := r) (j := j2) (s := s) (e := e) hv.2.1 (by omega)
          rw [← z1] at hBt
          exact ihj j2 (by omega) r m e _ _ d rest rest' f f' (by omega) hmod hv1 hv2 hr hr' hf hf'
    intro x s e k k' d rest rest' f f' hN hkk h h' hf hf'
    have a2 := lc_mu_2 (rk := rk) h
    have b2 := lc_mu_2 (rk := rk) h'
    have hse := h.1.2.1
    obtain ⟨g, rfl⟩ : ∃ g, f = g + 1 := ⟨f - 1, by omega⟩
    obtain ⟨g', rfl⟩ : ∃ g', f' = g' + 1 := ⟨f' - 1, by omega⟩
    obtain ⟨-, o2⟩ := lc_en_ok hG hA hk hS h
    obtain ⟨-, o2'⟩ := lc_en_ok hG hA hk hS h'
    obtain ⟨p1, p2⟩ := lc_pk_ok hG hS h.1
    obtain ⟨p1', p2'⟩ := lc_pk_ok hG hS h'.1
    have M : (lc_pk q w t R x s e k).1 < (lc_pk q w t R x s e k').1 ∨ ((lc_pk q w t R x s e k).1 = (lc_pk q w t R x s e k').1 ∧ (lc_pk q w t R x s e k).2 < (lc_pk q w t R x s e k').2) := lc_f_mono (f := lc_g q w t x s e) R 0 k k' hkk (by rw [Nat.zero_add]; exact (lc_ve_S hS h'.1).1)
    rw [lc_run_s, lc_run_s]
    generalize lc_pk q w t R x s e k = p at *
    generalize lc_pk q w t R x s e k' = p' at *
    obtain ⟨r, b⟩ := p
    obtain ⟨r', b'⟩ := p'
    dsimp only at *
    rcases M with M | ⟨rfl, M⟩
    · exact Or.inl (Or.inr ⟨rfl, M⟩)
    · refine Or.inr ⟨rfl, rfl, ?_⟩
      refine T 2 r s e b b' (d + 1) rest rest' g g' ?_ M p2 p2' h.2 h'.2 ?_ ?_
      · rw [lc_B_2, p1]; omega
      · show lc_mu rk (lc_kd q w t r 3 s e b (d + 1) ++ rest) ≤ g
        omega
      · show lc_mu rk (lc_kd q w t r 3 s e b' (d + 1) ++ rest') ≤ g'
        omega
end LPA
