section LCA
/-! A: counting, sets of codes, the closure -/
/-- how many i below n are in S -/
def lc_cn (S : Nat → Bool) : Nat → Nat
  | 0 => 0
  | n + 1 => lc_cn S n + (if S n = true then 1 else 0)
theorem lc_cn_s (S : Nat → Bool) (n : Nat) : lc_cn S (n + 1) = lc_cn S n + (if S n = true then 1 else 0) := rfl
theorem lc_cn_le (S : Nat → Bool) (n : Nat) : lc_cn S n ≤ n := by
  induction n with
  | zero => exact Nat.le_refl 0
  | succ n ih => rw [lc_cn_s]; split <;> omega
theorem lc_cn_mono {S S' : Nat → Bool} (h : ∀ i, S i = true → S' i = true) (n : Nat) : lc_cn S n ≤ lc_cn S' n := by
  induction n with
  | zero => exact Nat.le_refl 0
  | succ n ih =>
    rw [lc_cn_s, lc_cn_s]
    by_cases h1 : S n = true
    · rw [if_pos h1, if_pos (h n h1)]; omega
    · rw [if_neg h1]; omega
theorem lc_cn_lt {S S' : Nat → Bool} (h : ∀ i, S i = true → S' i = true) {n i : Nat} (hi : i < n) (h1 : ¬ S i = true) (h2 : S' i = true) : lc_cn S n < lc_cn S' n := by
  induction n with
  | zero => omega
  | succ n ih =>
    rw [lc_cn_s, lc_cn_s]
    by_cases e : i = n
    · subst e
      rw [if_neg h1, if_pos h2]
      have := lc_cn_mono h i
      omega
    · have := ih (by omega)
      by_cases h3 : S n = true
      · rw [if_pos h3, if_pos (h n h3)]; omega
      · rw [if_neg h3]; omega
theorem lc_cn_pos {S : Nat → Bool} {n i : Nat} (hi : i < n) (h : S i = true) : 1 ≤ lc_cn S n := by
  have e : lc_cn (fun _ => false) n = 0 := by
    clear hi
    induction n with
    | zero => rfl
    | succ n ih => rw [lc_cn_s, ih]; rfl
  have := lc_cn_lt (S := fun _ => false) (S' := S) (fun i h => by cases h) hi (by simp) h
  omega
/-- the rule r takes part: all rules, or (u) the unit rules alone -/
def lc_ca (u : Bool) (q : Nat → Nat → Nat) (r : Nat) : Prop := u = true → q r 1 < 8 ∧ q r 2 = 16
def lc_st (u : Bool) (q : Nat → Nat → Nat) (r : Nat) (S : Nat → Bool) : Nat → Bool :=
  fun i => S i || (S (q r 0) && ((!u || (decide (q r 1 < 8) && decide (q r 2 = 16))) && decide (i = q r 1)))
def lc_ps (u : Bool) (q : Nat → Nat → Nat) : Nat → (Nat → Bool) → (Nat → Bool)
  | 0, S => S
  | r + 1, S => lc_st u q r (lc_ps u q r S)
def lc_it (u : Bool) (q : Nat → Nat → Nat) (R : Nat) : Nat → (Nat → Bool) → (Nat → Bool)
  | 0, S => S
  | k + 1, S => lc_ps u q R (lc_it u q R k S)
/-- closed under the rules that take part -/
def lc_cl (u : Bool) (q : Nat → Nat → Nat) (R : Nat) (S : Nat → Bool) : Prop := ∀ r, r < R → lc_ca u q r → S (q r 0) = true → S (q r 1) = true
theorem lc_st_t {u : Bool} {q : Nat → Nat → Nat} {r : Nat} {S : Nat → Bool} (h : S (q r 0) = true) (hc : lc_ca u q r) : lc_st u q r S = fun i => S i || decide (i = q r 1) := by
  funext i
  unfold lc_st
  rw [h]
  cases u with
  | false => simp
  | true => obtain ⟨h1, h2⟩ := hc rfl; simp [h1, h2]
theorem lc_st_f {u : Bool} {q : Nat → Nat → Nat} {r : Nat} {S : Nat → Bool} (h : ¬ (S (q r 0) = true ∧ lc_ca u q r)) : lc_st u q r S = S := by
  funext i
  unfold lc_st
  by_cases h0 : S (q r 0) = true
  · have hc : ¬ lc_ca u q r := fun c => h ⟨h0, c⟩
    cases u with
    | false => exact absurd (fun z => by cases z) hc
    | true =>
      have h3 : ¬ (q r 1 < 8 ∧ q r 2 = 16) := fun z => hc (fun _ => z)
      have : (decide (q r 1 < 8) && decide (q r 2 = 16)) = false := by
        rw [Bool.eq_false_iff]
        intro z
        rw [Bool.and_eq_true, decide_eq_true_eq, decide_eq_true_eq] at z
        exact h3 z
      simp [this]
  · have : S (q r 0) = false := by simpa using h0
    simp [this]
theorem lc_st_sub {u : Bool} {q : Nat → Nat → Nat} {r : Nat} {S : Nat → Bool} {i : Nat} (h : S i = true) : lc_st u q r S i = true := by
  unfold lc_st; rw [h]; rfl
theorem lc_ps_sub {u : Bool} {q : Nat → Nat → Nat} {S : Nat → Bool} {i : Nat} (h : S i = true) (r : Nat) : lc_ps u q r S i = true := by
  induction r with
  | zero => exact h
  | succ r ih => exact lc_st_sub ih
theorem lc_ps_in {u : Bool} {q : Nat → Nat → Nat} {S : Nat → Bool} {r' : Nat} (hc : lc_ca u q r') (h : S (q r' 0) = true) : ∀ r, r' < r → lc_ps u q r S (q r' 1) = true := by
  intro r
  induction r with
  | zero => intro h; omega
  | succ r ih =>
    intro hr
    by_cases e : r' = r
    · subst e
      show lc_st u q r' (lc_ps u q r' S) (q r' 1) = true
      rw [lc_st_t (lc_ps_sub h r') hc]
      simp
    · exact lc_st_sub (ih (by omega))
theorem lc_ps_cl {u : Bool} {q : Nat → Nat → Nat} {R : Nat} {S : Nat → Bool} (h : lc_cl u q R S) : ∀ r, r ≤ R → lc_ps u q r S = S := by
  intro r
  induction r with
  | zero => intro _; rfl
  | succ r ih =>
    intro hr
    show lc_st u q r (lc_ps u q r S) = S
    rw [ih (by omega)]
    by_cases c : S (q r 0) = true ∧ lc_ca u q r
    · rw [lc_st_t c.1 c.2]
      funext i
      by_cases e : i = q r 1
      · subst e
        rw [h r (by omega) c.2 c.1]; rfl
      · rw [decide_eq_false e, Bool.or_false]
    · exact lc_st_f c
theorem lc_it_cl {u : Bool} {q : Nat → Nat → Nat} {R nt : Nat} {S : Nat → Bool} {a : Nat} (ha : a < nt) (hS : S a = true) (hq : ∀ r, r < R → q r 0 < nt) : lc_cl u q R (lc_it u q R nt S) := by
  have H : ∀ k, lc_cl u q R (lc_it u q R k S) ∨ k + 1 ≤ lc_cn (lc_it u q R k S) nt := by
    intro k
    induction k with
    | zero => exact Or.inr (lc_cn_pos ha hS)
    | succ k ih =>
      rcases ih with ih | ih
      · left
        show lc_cl u q R (lc_ps u q R (lc_it u q R k S))
        rw [lc_ps_cl ih R (Nat.le_refl R)]
        exact ih
      · by_cases h : ∃ i, i < nt ∧ ¬ lc_it u q R k S i = true ∧ lc_ps u q R (lc_it u q R k S) i = true
        · obtain ⟨i, hi, h1, h2⟩ := h
          right
          have := lc_cn_lt (S := lc_it u q R k S) (S' := lc_ps u q R (lc_it u q R k S)) (fun i h => lc_ps_sub h R) hi h1 h2
          show k + 1 + 1 ≤ lc_cn (lc_ps u q R (lc_it u q R k S)) nt
          omega
        · left
          intro r hr hc h2
          refine lc_ps_in hc ?_ R hr
          exact Decidable.byContradiction fun h1 => h ⟨q r 0, hq r hr, h1, h2⟩
  rcases H nt with h | h
  · exact h
  · have := lc_cn_le (lc_it u q R nt S) nt
    omega
theorem lc_it_more {u : Bool} {q : Nat → Nat → Nat} {R k : Nat} {S : Nat → Bool} (h : lc_cl u q R (lc_it u q R k S)) : ∀ j, lc_it u q R (k + j) S = lc_it u q R k S := by
  intro j
  induction j with
  | zero => rfl
  | succ j ih =>
    show lc_ps u q R (lc_it u q R (k + j) S) = _
    rw [ih]
    exact lc_ps_cl h R (Nat.le_refl R)
theorem lc_it_9 {u : Bool} {q : Nat → Nat → Nat} {R nt : Nat} {S : Nat → Bool} {a : Nat} (ha : a < nt) (h8 : nt ≤ 8) (hS : S a = true) (hq : ∀ r, r < R → q r 0 < nt) : lc_it u q R 9 S = lc_it u q R nt S := by
  have := lc_it_more (lc_it_cl (u := u) ha hS hq) (9 - nt)
  rw [show nt + (9 - nt) = 9 by omega] at this
  exact this
theorem lc_it_sub {u : Bool} {q : Nat → Nat → Nat} {R : Nat} {S : Nat → Bool} {i : Nat} (h : S i = true) : ∀ k, lc_it u q R k S i = true := by
  intro k
  induction k with
  | zero => exact h
  | succ k ih => exact lc_ps_sub ih R
/-! B: ranks of the unit rules -/
def lc_A (R : Nat) (q : Nat → Nat → Nat) (rk : Nat → Nat) : Prop := ∀ r, r < R → q r 1 < 8 → q r 2 = 16 → rk (q r 1) < rk (q r 0)
/-- ranks below nt -/
theorem lc_A_low {R nt : Nat} {q : Nat → Nat → Nat} {rk : Nat → Nat} (h : lc_A R q rk) (h0 : ∀ r, r < R → q r 0 < nt) (h1 : ∀ r, r < R → q r 1 < 8 → q r 1 < nt) : ∃ rl : Nat → Nat, lc_A R q rl ∧ ∀ x, x < nt → rl x < nt := by
  refine ⟨fun x => lc_cn (fun y => decide (rk y < rk x)) nt, ?_, ?_⟩
  · intro r hr h8 h16
    have hl := h r hr h8 h16
    refine lc_cn_lt (i := q r 1) ?_ (h1 r hr h8) ?_ ?_
    · intro i hi
      have hi' := of_decide_eq_true hi
      exact decide_eq_true (Nat.lt_trans hi' hl)
    · intro z
      have := of_decide_eq_true z
      omega
    · exact decide_eq_true hl
  · intro x hx
    have h2 := lc_cn_lt (S := fun y => decide (rk y < rk x)) (S' := fun _ => true) (fun _ _ => rfl) hx (by intro z; have := of_decide_eq_true z; omega) rfl
    have h3 := lc_cn_le (fun _ => true) nt
    show lc_cn (fun y => decide (rk y < rk x)) nt < nt
    omega
/-- a rule more -/
def lc_add (q : Nat → Nat → Nat) (R l a b c : Nat) : Nat → Nat → Nat := fun r p => if r = R then (if p = 0 then l else if p = 1 then a else if p = 2 then b else c) else q r p
theorem lc_add_lo {q : Nat → Nat → Nat} {R l a b c r : Nat} (h : r < R) (p : Nat) : lc_add q R l a b c r p = q r p := if_neg (by omega)
theorem lc_add_0 {q : Nat → Nat → Nat} {R l a b c : Nat} : lc_add q R l a b c R 0 = l := by simp [lc_add]
theorem lc_add_1 {q : Nat → Nat → Nat} {R l a b c : Nat} : lc_add q R l a b c R 1 = a := by simp [lc_add]
theorem lc_add_2 {q : Nat → Nat → Nat} {R l a b c : Nat} : lc_add q R l a b c R 2 = b := by simp [lc_add]
theorem lc_add_3 {q : Nat → Nat → Nat} {R l a b c : Nat} : lc_add q R l a b c R 3 = c := by simp [lc_add]
theorem lc_A_add {R : Nat} {q : Nat → Nat → Nat} {rk : Nat → Nat} {l a b c : Nat} (h : lc_A R q rk) (hn : a < 8 → b = 16 → ∃ S : Nat → Bool, lc_cl true q R S ∧ S a = true ∧ S l = false) : ∃ rk', lc_A (R + 1) (lc_add q R l a b c) rk' := by
  by_cases hu : a < 8 ∧ b = 16
  · obtain ⟨S, hc, hSa, hSl⟩ := hn hu.1 hu.2
    refine ⟨fun y => if S y = true then rk y else rk y + (rk a + 1), ?_⟩
    intro r hr h1 h2
    by_cases e : r = R
    · subst e
      rw [lc_add_0, lc_add_1]
      show (if S a = true then rk a else _) < (if S l = true then _ else rk l + (rk a + 1))
      rw [if_pos hSa, if_neg (by rw [hSl]; decide)]
      omega
    · have hr' : r < R := by omega
      rw [lc_add_lo hr'] at h1 h2 ⊢
      rw [lc_add_lo hr']
      have hlt := h r hr' h1 h2
      show (if S (q r 1) = true then rk (q r 1) else _) < (if S (q r 0) = true then rk (q r 0) else _)
      by_cases h0 : S (q r 0) = true
      · rw [if_pos h0, if_pos (hc r hr' (fun _ => ⟨h1, h2⟩) h0)]
        exact hlt
      · rw [if_neg h0]
        split <;> omega
  · refine ⟨rk, ?_⟩
    intro r hr h1 h2
    by_cases e : r = R
    · subst e
      rw [lc_add_1] at h1
      rw [lc_add_2] at h2
      exact absurd ⟨h1, h2⟩ hu
    · have hr' : r < R := by omega
      rw [lc_add_lo hr'] at h1 h2 ⊢
      rw [lc_add_lo hr']
      exact h r hr' h1 h2
/-! C: X's levels -/
/-- a chain of j unit rules begins at x -/
def lc_P (R : Nat) (q : Nat → Nat → Nat) : Nat → Nat → Prop
  | 0, _ => True
  | j + 1, x => ∃ r, r < R ∧ q r 1 < 8 ∧ q r 2 = 16 ∧ q r 0 = x ∧ lc_P R q j (q r 1)
theorem lc_P_rk {R : Nat} {q : Nat → Nat → Nat} {rk : Nat → Nat} (h : lc_A R q rk) : ∀ j x, lc_P R q j x → j ≤ rk x := by
  intro j
  induction j with
  | zero => intro x _; omega
  | succ j ih =>
    intro x hx
    obtain ⟨r, hr, h1, h2, rfl, hp⟩ := hx
    have := ih _ hp
    have := h r hr h1 h2
    omega
/-- the levels after k rounds, r rules into the next -/
def lc_lv (R nt : Nat) (q : Nat → Nat → Nat) (k r : Nat) (lv : Nat → Nat) : Prop :=
  (∀ x, x < nt → lc_P R q (lv x) x) ∧ (∀ x, x < nt → ∀ j, j ≤ k → lc_P R q j x → j ≤ lv x) ∧ (∀ i, i < r → q i 1 < 8 → q i 2 = 16 → ∀ j, j ≤ k → lc_P R q j (q i 1) → j + 1 ≤ lv (q i 0))
theorem lc_lv_0 {R nt : Nat} {q : Nat → Nat → Nat} {lv : Nat → Nat} (h : ∀ x, x < nt → lv x = 0) : lc_lv R nt q 0 0 lv :=
  ⟨fun x hx => by rw [h x hx]; exact True.intro, fun x hx j hj _ => by omega, fun i hi => by omega⟩
theorem lc_lv_n {R nt : Nat} {q : Nat → Nat → Nat} {k : Nat} {lv : Nat → Nat} (h : lc_lv R nt q k R lv) : lc_lv R nt q (k + 1) 0 lv := by
  obtain ⟨a, b, c⟩ := h
  refine ⟨a, ?_, fun i hi => by omega⟩
  intro x hx j hj hp
  by_cases e : j ≤ k
  · exact b x hx j e hp
  · obtain ⟨j', rfl⟩ : ∃ j', j = j' + 1 := ⟨j - 1, by omega⟩
    obtain ⟨r, hr, h1, h2, h0, hp'⟩ := hp
    have := c r hr h1 h2 j' (by omega) hp'
    rw [h0] at this
    exact this
/-- a natural number set in an array -/
def lc_up (f : Nat → Nat) (k v : Nat) : Nat → Nat := fun j => if j = k then v else f j
theorem lc_up_s {f : Nat → Nat} {k v : Nat} : lc_up f k v k = v := if_pos rfl
theorem lc_up_n {f : Nat → Nat} {k v j : Nat} (h : j ≠ k) : lc_up f k v j = f j := if_neg h
theorem lc_lv_up {R nt : Nat} {q : Nat → Nat → Nat} {k r : Nat} {lv : Nat → Nat} (h : lc_lv R nt q k r lv) (hr : r < R) (h0 : q r 0 < nt) (h1 : q r 1 < nt) (h8 : q r 1 < 8) (h2 : q r 2 = 16) : lc_lv R nt q k (r + 1) (if lv (q r 0) < lv (q r 1) + 1 then lc_up lv (q r 0) (lv (q r 1) + 1) else lv) := by
  obtain ⟨a, b, c⟩ := h
  have hmono : ∀ x, lv x ≤ (if lv (q r 0) < lv (q r 1) + 1 then lc_up lv (q r 0) (lv (q r 1) + 1) else lv) x := by
    intro x
    split
    · by_cases e : x = q r 0
      · subst e; rw [lc_up_s]; omega
      · rw [lc_up_n e]; omega
    · omega
  refine ⟨?_, ?_, ?_⟩
  · intro x hx
    split
    · by_cases e : x = q r 0
      · subst e; rw [lc_up_s]; exact ⟨r, hr, h8, h2, rfl, a _ h1⟩
      · rw [lc_up_n e]; exact a x hx
    · exact a x hx
  · intro x hx j hj hp
    exact Nat.le_trans (b x hx j hj hp) (hmono x)
  · intro i hi hi1 hi2 j hj hp
    by_cases e : i = r
    · subst e
      have hb := b _ h1 j hj hp
      split
      · rw [lc_up_s]; omega
      · omega
    · exact Nat.le_trans (c i (by omega) hi1 hi2 j hj hp) (hmono _)
theorem lc_lv_no {R nt : Nat} {q : Nat → Nat → Nat} {k r : Nat} {lv : Nat → Nat} (h : lc_lv R nt q k r lv) (hn : ¬ (q r 1 < 8 ∧ q r 2 = 16)) : lc_lv R nt q k (r + 1) lv := by
  obtain ⟨a, b, c⟩ := h
  refine ⟨a, b, ?_⟩
  intro i hi hi1 hi2 j hj hp
  by_cases e : i = r
  · subst e; exact absurd ⟨hi1, hi2⟩ hn
  · exact c i (by omega) hi1 hi2 j hj hp
/-- at the end the levels are ranks below nt -/
theorem lc_lv_end {R nt : Nat} {q : Nat → Nat → Nat} {rk lv : Nat → Nat} (hA : lc_A R q rk) (hk : ∀ x, x < nt → rk x < nt) (h0 : ∀ r, r < R → q r 0 < nt) (h1 : ∀ r, r < R → q r 1 < 8 → q r 1 < nt) (h : lc_lv R nt q (nt - 1) 0 lv) : lc_A R q lv ∧ ∀ x, x < nt → lv x < nt := by
  obtain ⟨a, b, -⟩ := h
  refine ⟨?_, ?_⟩
  · intro r hr h8 h2
    have hp : lc_P R q (lv (q r 1) + 1) (q r 0) := ⟨r, hr, h8, h2, rfl, a _ (h1 r hr h8)⟩
    have e1 := lc_P_rk hA _ _ hp
    have e2 := hk _ (h0 r hr)
    exact b _ (h0 r hr) _ (by omega) hp
  · intro x hx
    have := lc_P_rk hA _ _ (a x hx)
    have := hk x hx
    omega
end LCA
