section LCC
/-! G: the tree of a rank -/
/-- the first place from a on whose part holds the rank k, and the rank there -/
def lc_f (f : Nat → Nat) : Nat → Nat → Nat → Nat × Nat
  | 0, a, k => (a, k)
  | n + 1, a, k => if k < f a then (a, k) else lc_f f n (a + 1) (k - f a)
theorem lc_f_t {f : Nat → Nat} {n a k : Nat} (h : k < f a) : lc_f f (n + 1) a k = (a, k) := if_pos h
theorem lc_f_n {f : Nat → Nat} {n a k : Nat} (h : ¬ k < f a) : lc_f f (n + 1) a k = lc_f f n (a + 1) (k - f a) := if_neg h
theorem lc_S_sub {f : Nat → Nat} {a b k : Nat} (h : ¬ k < f a) (hb : a < b) (hk : k < lc_S f a b) : k - f a < lc_S f (a + 1) b := by
  rw [lc_S_h hb] at hk; omega
theorem lc_f_ok {f : Nat → Nat} : ∀ n a k, k < lc_S f a (a + n) → a ≤ (lc_f f n a k).1 ∧ (lc_f f n a k).1 < a + n ∧ (lc_f f n a k).2 < f (lc_f f n a k).1 := by
  intro n
  induction n with
  | zero => intro a k h; rw [lc_S_0 (by omega)] at h; omega
  | succ n ih =>
    intro a k h
    by_cases c : k < f a
    · rw [lc_f_t c]; exact ⟨Nat.le_refl a, by omega, c⟩
    · rw [lc_f_n c]
      have h2 := lc_S_sub c (by omega) h
      rw [show a + (n + 1) = a + 1 + n by omega] at h2
      have := ih (a + 1) (k - f a) h2
      omega
theorem lc_f_skip {f : Nat → Nat} : ∀ n a k, (∀ i, a ≤ i → i < a + n → f i = 0) → k < f (a + n) → lc_f f (n + 1) a k = (a + n, k) := by
  intro n
  induction n with
  | zero => intro a k _ h; exact lc_f_t h
  | succ n ih =>
    intro a k h hk
    have h0 := h a (Nat.le_refl a) (by omega)
    rw [lc_f_n (by omega), h0, Nat.sub_zero, ih (a + 1) k (fun i h1 h2 => h i (by omega) (by omega)) (by rw [show a + 1 + n = a + (n + 1) by omega]; exact hk)]
    rw [show a + 1 + n = a + (n + 1) by omega]
variable {q : Nat → Nat → Nat} {w : Nat → Int32} {t t' : Nat → Nat} {nt tm R n : Nat} {rk : Nat → Nat}
def lc_mf (q : Nat → Nat → Nat) (w : Nat → Int32) (t : Nat → Nat) (r j s e : Nat) : Nat → Nat := fun i => lc_y w t (q r (3 - j)) s i * lc_w q w t r j i e
/-- where the first of the last j + 1 symbols of rule r ends, and the rank there -/
def lc_m (q : Nat → Nat → Nat) (w : Nat → Int32) (t : Nat → Nat) (r j s e k : Nat) : Nat × Nat := lc_f (lc_mf q w t r j s e) (e - s) (s + 1) k
def lc_pk (q : Nat → Nat → Nat) (w : Nat → Int32) (t : Nat → Nat) (R x s e k : Nat) : Nat × Nat := lc_f (lc_g q w t x s e) R 0 k
def lc_vt (q : Nat → Nat → Nat) (w : Nat → Int32) (t : Nat → Nat) (R n r j s e k : Nat) : Prop := r < R ∧ j ≤ 2 ∧ s < e ∧ e ≤ n ∧ ¬ q r (3 - j) = 16 ∧ k < lc_w q w t r (j + 1) s e ∧ lc_w q w t r (j + 1) s e < 1000000
def lc_ve (t : Nat → Nat) (nt n x s e k : Nat) : Prop := x < nt ∧ s < e ∧ e ≤ n ∧ k < t (lc_ix x s e) ∧ t (lc_ix x s e) < 1000000
theorem lc_mp {a b : Nat} (h : 0 < a * b) : 0 < a ∧ 0 < b := by
  constructor
  · rcases Nat.eq_zero_or_pos a with h1 | h1
    · rw [h1, Nat.zero_mul] at h; omega
    · exact h1
  · rcases Nat.eq_zero_or_pos b with h1 | h1
    · rw [h1, Nat.mul_zero] at h; omega
    · exact h1
/-- what is left behind the middle is a tail again -/
theorem lc_nx (hG : lc_G nt tm R q) {r j m e : Nat} (hr : r < R) (hj : j ≤ 2) (hm : m < e) (hw : 0 < lc_w q w t r j m e) : ∃ j', j = j' + 1 ∧ ¬ q r (3 - j') = 16 := by
  cases j with
  | zero => rw [lc_w_0, if_neg (by omega)] at hw; omega
  | succ j =>
    refine ⟨j, rfl, ?_⟩
    intro h
    rw [lc_w_n h] at hw
    cases j with
    | zero => rw [lc_w_0, if_neg (by omega)] at hw; omega
    | succ j =>
      have e : j = 0 := by omega
      subst e
      rw [lc_w_n ((lc_G_16 hG hr).2 h), lc_w_0, if_neg (by omega)] at hw
      omega
theorem lc_vt_S {r j s e k : Nat} (h : lc_vt q w t R n r j s e k) : k < lc_S (lc_mf q w t r j s e) (s + 1) (e + 1) ∧ lc_S (lc_mf q w t r j s e) (s + 1) (e + 1) < 1000000 := by
  obtain ⟨hr, hj, hs, he, h16, hk, hc⟩ := h
  rw [lc_w_s h16] at hk hc
  rw [lc_cp_lt hc] at hk hc
  exact ⟨hk, hc⟩
theorem lc_m_ok (hG : lc_G nt tm R q) {r j s e k : Nat} (h : lc_vt q w t R n r j s e k) :
    s < (lc_m q w t r j s e k).1 ∧ (lc_m q w t r j s e k).1 ≤ e ∧
    (lc_m q w t r j s e k).2 < lc_y w t (q r (3 - j)) s (lc_m q w t r j s e k).1 * lc_w q w t r j (lc_m q w t r j s e k).1 e ∧
    lc_y w t (q r (3 - j)) s (lc_m q w t r j s e k).1 * lc_w q w t r j (lc_m q w t r j s e k).1 e < 1000000 := by
  obtain ⟨hk, hc⟩ := lc_vt_S h
  obtain ⟨hr, hj, hs, he, h16, -, -⟩ := h
  have e1 : s + 1 + (e - s) = e + 1 := by omega
  have H := lc_f_ok (f := lc_mf q w t r j s e) (e - s) (s + 1) k (by rw [e1]; exact hk)
  obtain ⟨a, b, c⟩ := H
  have d := lc_S_le (f := lc_mf q w t r j s e) a (k := e + 1) (by omega)
  exact ⟨by unfold lc_m; omega, by unfold lc_m; omega, c, Nat.lt_of_le_of_lt d hc⟩
/-- the tail behind the middle -/
theorem lc_m_nx (hG : lc_G nt tm R q) {r j s e k m b : Nat} (h : lc_vt q w t R n r j s e k) (hm : s < m) (he : m < e) (hb : b < lc_y w t (q r (3 - j)) s m * lc_w q w t r j m e) (hc : lc_y w t (q r (3 - j)) s m * lc_w q w t r j m e < 1000000) : ∃ j', j = j' + 1 ∧ lc_vt q w t R n r j' m e (b % lc_w q w t r j m e) := by
  obtain ⟨hr, hj, hs, hn, h16, -, -⟩ := h
  obtain ⟨h1, h2⟩ := lc_mp (Nat.lt_of_le_of_lt (Nat.zero_le b) hb)
  obtain ⟨j', rfl, h3⟩ := lc_nx hG hr hj he h2
  refine ⟨j', rfl, hr, by omega, he, hn, h3, Nat.mod_lt _ h2, ?_⟩
  exact Nat.lt_of_le_of_lt (Nat.le_mul_of_pos_left _ h1) hc
/-- the child before the middle -/
theorem lc_m_ch (hG : lc_G nt tm R q) {r j s e k m b : Nat} (h : lc_vt q w t R n r j s e k) (hm : s < m) (he : m ≤ e) (hb : b < lc_y w t (q r (3 - j)) s m * lc_w q w t r j m e) (hc : lc_y w t (q r (3 - j)) s m * lc_w q w t r j m e < 1000000) (h8 : q r (3 - j) < 8) : lc_ve t nt n (q r (3 - j)) s m (b / lc_w q w t r j m e) := by
  obtain ⟨hr, hj, hs, hn, h16, -, -⟩ := h
  obtain ⟨h1, h2⟩ := lc_mp (Nat.lt_of_le_of_lt (Nat.zero_le b) hb)
  have ey : lc_y w t (q r (3 - j)) s m = t (lc_ix (q r (3 - j)) s m) := if_pos h8
  refine ⟨lc_G_8 hG hr _ (by omega) h8, hm, by omega, ?_, ?_⟩
  · rw [← ey]; exact (Nat.div_lt_iff_lt_mul h2).mpr hb
  · rw [← ey]; exact Nat.lt_of_le_of_lt (Nat.le_mul_of_pos_right _ h2) hc
theorem lc_m_te {c s m : Nat} (h8 : ¬ c < 8) (h : 0 < lc_y w t c s m) : m = s + 1 := by
  unfold lc_y at h
  rw [if_neg h8] at h
  split at h
  · exact (by assumption : _ ∧ _).1
  · omega
theorem lc_m_un (hG : lc_G nt tm R q) {r e : Nat} (hr : r < R) (h : 0 < lc_w q w t r 2 e e) : q r 2 = 16 := by
  refine Decidable.byContradiction fun z => ?_
  rw [lc_w_z (j := 1) z] at h
  omega
theorem lc_pk_ok (hG : lc_G nt tm R q) (hS : lc_sat q w R nt n t) {x s e k : Nat} (h : lc_ve t nt n x s e k) : q (lc_pk q w t R x s e k).1 0 = x ∧ lc_vt q w t R n (lc_pk q w t R x s e k).1 2 s e (lc_pk q w t R x s e k).2 := by
  obtain ⟨hx, hs, he, hk, hc⟩ := h
  rw [hS x s e hx hs he] at hk hc
  unfold lc_n at hk hc
  rw [lc_cp_lt hc] at hk hc
  have H := lc_f_ok (f := lc_g q w t x s e) R 0 k (by rw [Nat.zero_add]; exact hk)
  obtain ⟨a, b, c⟩ := H
  have d := lc_S_le (f := lc_g q w t x s e) a (k := R) (by omega)
  have e0 : q (lc_f (lc_g q w t x s e) R 0 k).1 0 = x := by
    refine Decidable.byContradiction fun z => ?_
    have c0 : lc_g q w t x s e (lc_f (lc_g q w t x s e) R 0 k).1 = 0 := if_neg z
    omega
  have eg : lc_g q w t x s e (lc_f (lc_g q w t x s e) R 0 k).1 = lc_w q w t (lc_f (lc_g q w t x s e) R 0 k).1 3 s e := if_pos e0
  rw [eg] at c d
  unfold lc_pk
  exact ⟨e0, by omega, Nat.le_refl 2, hs, he, (lc_G_16 hG (by omega)).1, c, Nat.lt_of_le_of_lt d hc⟩
/-! H: entries, nodes -/
abbrev lc_E : Type := Nat × Nat × Nat × Nat × Nat
abbrev lc_N : Type := Nat × Nat × Nat × Nat
/-- r, j, start, end, rank, depth -/
abbrev lc_L : Type := Nat × Nat × Nat × Nat × Nat × Nat
def lc_k1 (c s m k d : Nat) : List lc_E := if c < 8 then [(c, s, m, k, d)] else []
def lc_kd (q : Nat → Nat → Nat) (w : Nat → Int32) (t : Nat → Nat) (r : Nat) : Nat → Nat → Nat → Nat → Nat → List lc_E
  | 0, _, _, _, _ => []
  | j + 1, s, e, k, d => lc_k1 (q r (3 - j)) s (lc_m q w t r j s e k).1 ((lc_m q w t r j s e k).2 / lc_w q w t r j (lc_m q w t r j s e k).1 e) d ++ (if (lc_m q w t r j s e k).1 < e then lc_kd q w t r j (lc_m q w t r j s e k).1 e ((lc_m q w t r j s e k).2 % lc_w q w t r j (lc_m q w t r j s e k).1 e) d else [])
theorem lc_kd_s {r j s e k d : Nat} : lc_kd q w t r (j + 1) s e k d = lc_k1 (q r (3 - j)) s (lc_m q w t r j s e k).1 ((lc_m q w t r j s e k).2 / lc_w q w t r j (lc_m q w t r j s e k).1 e) d ++ (if (lc_m q w t r j s e k).1 < e then lc_kd q w t r j (lc_m q w t r j s e k).1 e ((lc_m q w t r j s e k).2 % lc_w q w t r j (lc_m q w t r j s e k).1 e) d else []) := rfl
def lc_run (q : Nat → Nat → Nat) (w : Nat → Int32) (t : Nat → Nat) (R : Nat) : Nat → List lc_E → List lc_N
  | 0, _ => []
  | _ + 1, [] => []
  | f + 1, (x, s, e, k, d) :: l => ((lc_pk q w t R x s e k).1, s, e, d) :: lc_run q w t R f (lc_kd q w t (lc_pk q w t R x s e k).1 3 s e (lc_pk q w t R x s e k).2 (d + 1) ++ l)
theorem lc_run_s {f x s e k d : Nat} {l : List lc_E} : lc_run q w t R (f + 1) ((x, s, e, k, d) :: l) = ((lc_pk q w t R x s e k).1, s, e, d) :: lc_run q w t R f (lc_kd q w t (lc_pk q w t R x s e k).1 3 s e (lc_pk q w t R x s e k).2 (d + 1) ++ l) := rfl
theorem lc_run_n {f : Nat} : lc_run q w t R f [] = [] := by cases f <;> rfl
def lc_mu (rk : Nat → Nat) : List lc_E → Nat
  | [] => 0
  | (x, s, e, _, _) :: l => 17 * (e - s) - 15 + rk x + lc_mu rk l
theorem lc_mu_c {rk : Nat → Nat} {x s e k d : Nat} {l : List lc_E} : lc_mu rk ((x, s, e, k, d) :: l) = 17 * (e - s) - 15 + rk x + lc_mu rk l := rfl
theorem lc_mu_a {rk : Nat → Nat} (l m : List lc_E) : lc_mu rk (l ++ m) = lc_mu rk l + lc_mu rk m := by
  induction l with
  | nil => show lc_mu rk m = 0 + lc_mu rk m; omega
  | cons a l ih =>
    obtain ⟨x, s, e, k, d⟩ := a
    show 17 * (e - s) - 15 + rk x + lc_mu rk (l ++ m) = 17 * (e - s) - 15 + rk x + lc_mu rk l + lc_mu rk m
    rw [ih]; omega
def lc_ev (t : Nat → Nat) (nt n : Nat) : List lc_E → Prop
  | [] => True
  | (x, s, e, k, _) :: l => lc_ve t nt n x s e k ∧ lc_ev t nt n l
theorem lc_ev_a {t : Nat → Nat} {nt n : Nat} {l m : List lc_E} (h : lc_ev t nt n l) (h' : lc_ev t nt n m) : lc_ev t nt n (l ++ m) := by
  induction l with
  | nil => exact h'
  | cons a l ih =>
    obtain ⟨x, s, e, k, d⟩ := a
    exact ⟨h.1, ih h.2⟩
def lc_B (rk : Nat → Nat) (q : Nat → Nat → Nat) (r j s e : Nat) : Nat := if j = 2 then 17 * (e - s) - 16 + rk (q r 0) else 17 * (e - s) - 8
theorem lc_B_2 {r s e : Nat} : lc_B rk q r 2 s e = 17 * (e - s) - 16 + rk (q r 0) := if_pos rfl
theorem lc_B_n {r j s e : Nat} (h : j ≠ 2) : lc_B rk q r j s e = 17 * (e - s) - 8 := if_neg h
theorem lc_B_pos {r j s e : Nat} (h : s < e) : 1 ≤ lc_B rk q r j s e := by
  unfold lc_B; split <;> omega
/-- what a child takes of its tail's bound: c over [s, m), nothing behind it -/
theorem lc_B_end (hG : lc_G nt tm R q) (hA : lc_A R q rk) (hk : ∀ x, x < nt → rk x < nt) {r j s e : Nat} (hr : r < R) (hj : j ≤ 2) (hs : s < e) (hw : 0 < lc_w q w t r j e e) (h8 : q r (3 - j) < 8) : 17 * (e - s) - 15 + rk (q r (3 - j)) ≤ lc_B rk q r j s e := by
  have h1 := hk _ (lc_G_8 hG hr (3 - j) (by omega) h8)
  have h2 := hG.1
  by_cases hj2 : j = 2
  · subst hj2
    have h3 := hA r hr h8 (lc_m_un hG hr hw)
    rw [lc_B_2]
    show 17 * (e - s) - 15 + rk (q r 1) ≤ _
    omega
  · rw [lc_B_n hj2]; omega
theorem lc_B_mid (hG : lc_G nt tm R q) (hk : ∀ x, x < nt → rk x < nt) {r j s m e : Nat} (hr : r < R) (hj : j + 1 ≤ 2) (hs : s < m) (hm : m < e) (h8 : q r (3 - (j + 1)) < 8) : 17 * (m - s) - 15 + rk (q r (3 - (j + 1))) + lc_B rk q r j m e ≤ lc_B rk q r (j + 1) s e := by
  have h1 := hk _ (lc_G_8 hG hr (3 - (j + 1)) (by omega) h8)
  have h2 := hG.1
  rw [lc_B_n (j := j) (by omega)]
  unfold lc_B
  split <;> omega
theorem lc_B_ter {r j s e : Nat} (hj : j + 1 ≤ 2) (hm : s + 1 < e) : 1 + lc_B rk q r j (s + 1) e ≤ lc_B rk q r (j + 1) s e := by
  rw [lc_B_n (j := j) (by omega)]
  unfold lc_B
  split <;> omega
theorem lc_kd_ok (hG : lc_G nt tm R q) (hA : lc_A R q rk) (hk : ∀ x, x < nt → rk x < nt) {r d : Nat} : ∀ j s e k, lc_vt q w t R n r j s e k → lc_ev t nt n (lc_kd q w t r (j + 1) s e k d) ∧ lc_mu rk (lc_kd q w t r (j + 1) s e k d) ≤ lc_B rk q r j s e := by
  intro j
  induction j with
  | zero =>
    intro s e k h
    obtain ⟨m1, m2, m3, m4⟩ := lc_m_ok hG h
    have hme : ¬ (lc_m q w t r 0 s e k).1 < e := by
      intro z
      obtain ⟨j', e1, -⟩ := lc_m_nx hG h m1 z m3 m4
      omega
    rw [lc_kd_s, if_neg hme, List.append_nil]
    unfold lc_k1
    by_cases h8 : q r (3 - 0) < 8
    · rw [if_pos h8]
      have e1 : (lc_m q w t r 0 s e k).1 = e := by omega
      have hc := lc_m_ch hG h m1 m2 m3 m4 h8
      rw [e1] at hc m3 ⊢
      refine ⟨⟨hc, True.intro⟩, ?_⟩
      exact lc_B_end hG hA hk h.1 (by omega) h.2.2.1 (lc_mp (Nat.lt_of_le_of_lt (Nat.zero_le _) m3)).2 h8
    · rw [if_neg h8]
      exact ⟨True.intro, Nat.zero_le _⟩
  | succ j ih =>
    intro s e k h
    obtain ⟨m1, m2, m3, m4⟩ := lc_m_ok hG h
    have hp := lc_mp (Nat.lt_of_le_of_lt (Nat.zero_le _) m3)
    rw [lc_kd_s]
    have hj2 := h.2.1
    by_cases hme : (lc_m q w t r (j + 1) s e k).1 < e
    · rw [if_pos hme]
      obtain ⟨j', e1, hv⟩ := lc_m_nx hG h m1 hme m3 m4
      have e2 : j' = j := by omega
      subst e2
      obtain ⟨i1, i2⟩ := ih _ _ _ hv
      unfold lc_k1
      by_cases h8 : q r (3 - (j' + 1)) < 8
      · rw [if_pos h8]
        refine ⟨⟨lc_m_ch hG h m1 m2 m3 m4 h8, i1⟩, ?_⟩
        have := lc_B_mid hG hk h.1 hj2 m1 hme h8
        rw [List.cons_append, List.nil_append, lc_mu_c]
        omega
      · rw [if_neg h8]
        refine ⟨i1, ?_⟩
        have e3 := lc_m_te h8 hp.1
        have := lc_B_ter (rk := rk) (q := q) (r := r) (j := j') (s := s) (e := e) hj2 (by omega)
        rw [e3] at i2 ⊢
        show lc_mu rk (lc_kd q w t r (j' + 1) (s + 1) e _ d) ≤ _
        omega
    · rw [if_neg hme, List.append_nil]
      unfold lc_k1
      by_cases h8 : q r (3 - (j + 1)) < 8
      · rw [if_pos h8]
        have e1 : (lc_m q w t r (j + 1) s e k).1 = e := by omega
        have hc := lc_m_ch hG h m1 m2 m3 m4 h8
        rw [e1] at hc hp ⊢
        exact ⟨⟨hc, True.intro⟩, lc_B_end hG hA hk h.1 hj2 h.2.2.1 hp.2 h8⟩
      · rw [if_neg h8]
        exact ⟨True.intro, Nat.zero_le _⟩
/-- a node more: the bound falls -/
theorem lc_en_ok (hG : lc_G nt tm R q) (hA : lc_A R q rk) (hk : ∀ x, x < nt → rk x < nt) (hS : lc_sat q w R nt n t) {x s e k d : Nat} {l : List lc_E} (h : lc_ev t nt n ((x, s, e, k, d) :: l)) : lc_ev t nt n (lc_kd q w t (lc_pk q w t R x s e k).1 3 s e (lc_pk q w t R x s e k).2 (d + 1) ++ l) ∧ lc_mu rk (lc_kd q w t (lc_pk q w t R x s e k).1 3 s e (lc_pk q w t R x s e k).2 (d + 1) ++ l) + 1 ≤ lc_mu rk ((x, s, e, k, d) :: l) := by
  obtain ⟨h1, h2⟩ := h
  obtain ⟨p1, p2⟩ := lc_pk_ok hG hS h1
  obtain ⟨k1, k2⟩ := lc_kd_ok (d := d + 1) hG hA hk 2 s e _ p2
  have k3 : lc_mu rk (lc_kd q w t (lc_pk q w t R x s e k).1 3 s e (lc_pk q w t R x s e k).2 (d + 1)) ≤ lc_B rk q (lc_pk q w t R x s e k).1 2 s e := k2
  refine ⟨lc_ev_a k1 h2, ?_⟩
  rw [lc_mu_a, lc_mu_c]
  rw [lc_B_2, p1] at k3
  have := h1.2.1
  omega
/-! I: X's tails -/
def lc_ex (q : Nat → Nat → Nat) (w : Nat → Int32) (t : Nat → Nat) : List lc_L → List lc_E
  | [] => []
  | (r, j, s, e, k, d) :: l => lc_kd q w t r (j + 1) s e k d ++ lc_ex q w t l
def lc_tv (q : Nat → Nat → Nat) (w : Nat → Int32) (t : Nat → Nat) (R n : Nat) : List lc_L → Prop
  | [] => True
  | (r, j, s, e, k, _) :: l => lc_vt q w t R n r j s e k ∧ lc_tv q w t R n l
def lc_mt (rk : Nat → Nat) (q : Nat → Nat → Nat) : List lc_L → Nat
  | [] => 0
  | (r, j, s, e, _, _) :: l => lc_B rk q r j s e + lc_mt rk q l
theorem lc_mt_len (l : List lc_L) (h : lc_tv q w t R n l) : l.length ≤ lc_mt rk q l := by
  induction l with
  | nil => exact Nat.le_refl 0
  | cons a l ih =>
    obtain ⟨r, j, s, e, k, d⟩ := a
    have h1 := ih h.2
    have h2 := lc_B_pos (rk := rk) (q := q) (r := r) (j := j) h.1.2.2.1
    show l.length + 1 ≤ lc_B rk q r j s e + lc_mt rk q l
    omega
end LCC
