section LPG
theorem lz_clamp {post : Int32 → Prop} {m : Nat} (h1 : 1 ≤ m) (h8 : m ≤ 8) (hp : post (nI m)) : wpX_clampKinds post () (nI m) := br_t (nI_le (a := 1) h1 (by omega)) (br_t (nI_le (b := 8) h8 (by decide)) hp)
theorem i_vc (xs : Nat → Int32) (L : Nat) (hL : L ≤ 260) : wpL_law (fun r => r = 1) L xs := by
  unfold wpL_law
  obtain ⟨c0, hc0⟩ := lz_cell (xs := xs) (i := 0) hL (by omega)
  obtain ⟨c1, hc1⟩ := lz_cell (xs := xs) (i := 1) hL (by omega)
  obtain ⟨c2, hc2⟩ := lz_cell (xs := xs) (i := 2) hL (by omega)
  obtain ⟨a, ha, han⟩ := lz_nn c0 (M := 3) (by omega) (by omega)
  obtain ⟨b, hb, hbn⟩ := lz_nn c1 (M := 2) (by omega) (by omega)
  obtain ⟨d, hd, hdn⟩ := lz_nn c2 (M := 4) (by omega) (by omega)
  have ea : 1 + nI a = nI (1 + a) := nI_add 1 a
  have eb : 1 + nI b = nI (1 + b) := nI_add 1 b
  have G0 : lc_G (1 + a) (1 + b) 0 (fun _ _ => 0) := ⟨by omega, by omega, fun r hr => by omega⟩
  have A0 : ∃ rk, lc_A 0 (fun _ _ => 0) rk := ⟨fun _ => 0, fun r hr => by omega⟩
  have T0 : ∀ j : Nat, (fun _ : Nat => (0 : Nat)) j ≤ 1000000 := fun _ => Nat.zero_le _
  refine hc0 _ (han _ (nm_r ea ?_))
  refine hc1 _ (hbn _ (nm_r eb ⟨15, 3441, by omega, by omega, ?_⟩))
  unfold wpX_init
  refine ⟨by omega, by omega, by omega, by omega, by omega, by omega, by omega, by omega, by omega, by omega, by omega, by omega, by omega, by omega, by omega, by omega, by omega, by omega, by omega, by omega, by omega, by omega, by omega, by omega, by omega, by omega, by omega, by omega, by omega, by omega, ?_⟩
  refine lz_clamp (by omega) (by omega) (lz_clamp (by omega) (by omega) ?_)
  refine ⟨by omega, by omega, 15, 3441, by omega, by omega, ?_⟩
  refine ⟨by omega, by omega, by omega, by omega, by omega, by omega, by omega, by omega, by omega, by omega, by omega, by omega, by omega, by omega, by omega, by omega, by omega, by omega, by omega, by omega, by omega, by omega, by omega, by omega, by omega, by omega, by omega, by omega, by omega, by omega, ?_⟩
  refine lz_clamp (by omega) (by omega) (lz_clamp (by omega) (by omega) ?_)
  have e3 : (2 : Int32) + 1 = nI 3 := rfl
  refine nm_r e3 (hc2 _ (hdn _ ?_))
  refine lc_if (lc_eq0 (by omega)) (fun z => ?_) (fun z => ?_)
  · exact lz_125 (post := fun r => r = 1) (nt := 1 + a) (tm := 1 + b) (R := 0) (q := fun _ _ => 0) (w := fun _ => 0) (t := fun _ => 0) (tb := fun _ => 0) (i := 3) rfl hL (by omega) (by omega) T0 T0 (by omega) G0 (by omega) A0
  · refine lz_add2 (nt := 1 + a) (tm := 1 + b) (R := 0) (n := 0) (q := fun _ _ => 0) (w := fun _ => 0) (t := fun _ => 0) G0 (by omega) A0 (fun R' q' r' xP' xK' xM' hG' h24' hA' hb => ?_)
    refine hb (tb := fun _ => 0) (fun rb xP2 xK2 xM2 => ⟨1 + b + 1, ?_⟩)
    exact lz_86 (post := fun r => r = 1) (nt := 1 + a) (tm := 1 + b) (w := fun _ => 0) (t := fun _ => 0) (tb := fun _ => 0) (i := 3) rfl hL (by omega) (by omega) T0 T0 (by omega) (1 + b) 0 R' q' _ _ _ _ _ _ _ _ _ _ _ _ _ _ _ _ _ _ _ _ _ _ _ _ _ _ _ _ _ _ _ _ _ _ (by omega) hG' h24' hA'
end LPG
