section LCN
/-! rows of the kit, pasted -/
def bt (x : Int32) (i : Nat) : Bool := x.toBitVec.getLsbD i
theorem b_ext {x y : Int32} (h : ∀ i, i < 32 → bt x i = bt y i) : x = y := Int32.toBitVec_inj.mp (BitVec.eq_of_getLsbD_eq (fun i hi => h i hi))
theorem b_or (x y : Int32) (i : Nat) : bt (x ||| y) i = (bt x i || bt y i) := by unfold bt; rw [Int32.toBitVec_or, BitVec.getLsbD_or]
theorem b_and (x y : Int32) (i : Nat) : bt (x &&& y) i = (bt x i && bt y i) := by unfold bt; rw [Int32.toBitVec_and, BitVec.getLsbD_and]
theorem b_big {x : Int32} {i : Nat} (h : 32 ≤ i) : bt x i = false := BitVec.getLsbD_of_ge _ _ h
theorem b_0 (i : Nat) : bt 0 i = false := BitVec.getLsbD_zero
theorem s_l : ∀ n, n < 32 → ((nI n &&& 31).toBitVec.smod 32).toNat = n := by decide +kernel
theorem b_shl (n : Nat) (hn : n < 32) (x : Int32) {i : Nat} (hi : i < 32) : bt (x <<< (nI n &&& 31)) i = (decide (n ≤ i) && bt x (i - n)) := by
  unfold bt
  rw [Int32.toBitVec_shiftLeft]
  show (x.toBitVec <<< ((nI n &&& 31).toBitVec.smod 32).toNat).getLsbD i = _
  rw [s_l n hn, BitVec.getLsbD_shiftLeft]
  rcases Nat.lt_or_ge i n with h | h
  · simp [h, Nat.not_le.mpr h]
  · simp [hi, h, Nat.not_lt.mpr h]
theorem b_sshr (n : Nat) (hn : n < 32) (x : Int32) {i : Nat} (hi : i < 32) : bt (x >>> (nI n &&& 31)) i = if n + i < 32 then bt x (n + i) else bt x 31 := by
  unfold bt
  rw [Int32.toBitVec_shiftRight]
  show (x.toBitVec.sshiftRight ((nI n &&& 31).toBitVec.smod 32).toNat).getLsbD i = _
  rw [s_l n hn, BitVec.getLsbD_sshiftRight, BitVec.msb_eq_getLsbD_last]
  simp [hi]
/-! numbers of this claim -/
def lc_cd (c : Nat) : Int32 := if c = 16 then -1 else nI c
theorem lc_cd_16 : lc_cd 16 = -1 := if_pos rfl
theorem lc_cd_n {c : Nat} (h : ¬ c = 16) : lc_cd c = nI c := if_neg h
theorem lc_m1 {a : Nat} (h : a < 2 ^ 31) : ¬ nI a = -1 := by
  intro e
  have := nI_pos (n := a) h
  rw [e] at this
  exact this (by decide)
theorem lc_cd_e {c : Nat} (h : c ≤ 16) : lc_cd c = -1 ↔ c = 16 := by
  constructor
  · intro z
    refine Decidable.byContradiction fun hc => ?_
    rw [lc_cd_n hc] at z
    exact lc_m1 (by omega) z
  · intro z; subst z; exact lc_cd_16
def lc_rc (q : Nat → Nat → Nat) : Nat → Int32 := fun j => lc_cd (q (j / 4) (j % 4))
def lc_ra (q : Nat → Nat → Nat) (p : Nat) : Nat → Int32 := fun r => lc_cd (q r p)
def lc_tr (t : Nat → Nat) : Nat → Int32 := fun j => nI (t j)
theorem lc_rc_0 {q : Nat → Nat → Nat} {r : Nat} : lc_rc q (r * 4) = lc_cd (q r 0) := by
  unfold lc_rc; rw [show r * 4 / 4 = r by omega, show r * 4 % 4 = 0 by omega]
theorem lc_rc_p {q : Nat → Nat → Nat} {r p : Nat} (hp : p < 4) : lc_rc q (r * 4 + p) = lc_cd (q r p) := by
  unfold lc_rc; rw [show (r * 4 + p) / 4 = r by omega, show (r * 4 + p) % 4 = p by omega]
theorem lc_x4 (r : Nat) : nI r * 4 = nI (r * 4) := pk_mul r 4
theorem lc_x13 (r : Nat) : nI r * 13 = nI (r * 13) := pk_mul r 13
theorem lc_a2 (r : Nat) : nI r + 2 = nI (r + 2) := nI_add r 2
theorem lc_a3 (r : Nat) : nI r + 3 = nI (r + 3) := nI_add r 3
theorem lc_ixI (x s e : Nat) : nI x * 13 + nI s = nI (x * 13 + s) := by rw [lc_x13, nI_add]
theorem lc_ixN (x s e : Nat) : (nI x * 13 + nI s) * 13 + nI e = nI (lc_ix x s e) := by
  rw [lc_ixI x s e, lc_x13, nI_add]; rfl
theorem lc_tr_up {t : Nat → Nat} {k v : Nat} : upd (lc_tr t) k (nI v) = lc_tr (lc_up t k v) := by
  funext j
  unfold upd lc_tr lc_up
  split <;> rfl
theorem lc_0le {a : Nat} (h : a < 2 ^ 31) : nI a ≤ 0 ↔ a = 0 := by
  rw [← nI_0, nI_leI h (by omega)]; omega
theorem lc_eq0 {a : Nat} (h : a < 2 ^ 31) : nI a = 0 ↔ a = 0 := by
  rw [← nI_0, nI_eq h (by omega)]
/-- a branch by its meaning -/
theorem lc_if {c d A B : Prop} (e : c ↔ d) (f : d → A) (g : ¬ d → B) : (c → A) ∧ (¬ c → B) := ⟨fun h => f (e.mp h), fun h => g (fun z => h (e.mpr z))⟩
theorem lc_at {α : Sort _} {P : α → Prop} {a b : α} (e : a = b) (h : P b) : P a := e ▸ h
/-! bits -/
theorem lc_b_1 : ∀ j, j < 32 → bt 1 j = decide (j = 0) := by decide +kernel
theorem lc_b1 {a i : Nat} (ha : a < 32) (hi : i < 32) : bt ((1 : Int32) <<< (nI a &&& 31)) i = decide (i = a) := by
  rw [b_shl a ha 1 hi]
  by_cases h : a ≤ i
  · rw [lc_b_1 _ (by omega), decide_eq_true h, Bool.true_and]
    exact decide_eq_decide.mpr (by omega)
  · rw [decide_eq_false h, Bool.false_and, decide_eq_false (by omega)]
theorem lc_hb {K : Int32} {i : Nat} (hi : i < 31) : ((K >>> (nI i &&& 31)) &&& 1) = 0 ↔ bt K i = false := by
  have h0 : bt (K >>> (nI i &&& 31)) 0 = bt K i := by
    rw [b_sshr i (by omega) K (by omega), if_pos (by omega), Nat.add_zero]
  constructor
  · intro h
    have e : bt (K >>> (nI i &&& 31) &&& 1) 0 = bt 0 0 := by rw [h]
    rw [b_and, h0, b_0, lc_b_1 0 (by omega)] at e
    simpa using e
  · intro h
    refine b_ext ?_
    intro j hj
    rw [b_and, b_0, lc_b_1 j hj]
    by_cases e : j = 0
    · subst e; rw [h0, h]; rfl
    · rw [decide_eq_false e, Bool.and_false]
def lc_bs (K : Int32) (S : Nat → Bool) : Prop := ∀ i, i < 16 → bt K i = S i
theorem lc_bs_or {K : Int32} {S : Nat → Bool} {c : Nat} (h : lc_bs K S) (hc : c < 16) : lc_bs (K ||| ((1 : Int32) <<< (nI c &&& 31))) (fun i => S i || decide (i = c)) := by
  intro i hi
  rw [b_or, h i hi, lc_b1 (by omega) (by omega)]
/-! longs -/
theorem lc_cpL {x : Nat} (h : x < 2 ^ 62) {P : Int64 → Prop} (hp : P (lN (lc_cp x))) : (lN x ≤ 1000000 → P (lN x)) ∧ (¬ lN x ≤ 1000000 → P 1000000) := by
  have e : (lN x ≤ 1000000) ↔ x ≤ 1000000 := pk_lLE (a := x) (b := 1000000) (by omega) (by omega)
  refine lc_if e (fun z => ?_) (fun z => ?_)
  · rw [lc_cp_id z] at hp; exact hp
  · have : lc_cp x = 1000000 := if_neg (by omega)
    rw [this] at hp; exact hp
end LCN
