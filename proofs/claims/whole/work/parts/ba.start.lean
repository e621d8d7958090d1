/-! the law's start: both made, the row for the caught answer -/
section LST
variable {kB : Nat → Nat × Nat} {σ0 : StT} {L : Nat} {xs : Nat → Int}
def M0 (D : Dw) : Ms := ((0, fun _ => 0), (false, D, 0, fun _ => 0), [], 0, 0, 0)
theorem M0_ok (D : Dw) : okM (M0 D) := ⟨by show 0 ≤ 700; omega, fun h => (by cases h), fun i hi => (by cases hi), by show 0 ≤ 10; omega, fun _ => rfl, Or.inl rfl⟩
theorem M0_c {D : Dw} {σ : StT} (z : ZI σ0 σ 155) : cT σ (M0 D) := by
  have g : ∀ b j, 1 ≤ b → b < 125 → (b = 30 ∨ (j ≠ 7 ∧ j ≠ 8)) → ¬ (b = 124 ∧ j = 6) → σ b j = 0 := fun b j h1 h2 h3 h4 => z.1 b j h1 (by omega) h3 h4 (by omega)
  refine ⟨M0_ok D, g 2 1 (by omega) (by omega) (by omega) (by omega), fun x hx => (by cases hx), g 1 12 (by omega) (by omega) (by omega) (by omega), g 1 13 (by omega) (by omega) (by omega) (by omega), g 124 5 (by omega) (by omega) (by omega) (by omega), fun q => ?_, ⟨g 53 3 (by omega) (by omega) (by omega) (by omega), by show 0 ≤ 10; omega, 0, by omega, g 53 2 (by omega) (by omega) (by omega) (by omega), fun i hi => (by cases hi)⟩, fun u _ => g 30 u (by omega) (by omega) (by omega) (by omega), fun q => (by cases q)⟩
  exact absurd (show (0 : Int) = 4 from q) (by decide)
theorem M0_m {D : Dw} {σ : StT} (z : ZI σ0 σ 155) : mT σ (M0 D) := by
  have g : ∀ b j, 125 ≤ b → b < 155 → (j ≠ 7 ∧ j ≠ 8) → ¬ (b = 125 ∧ j = 3) → σ b j = 0 := fun b j h1 h2 h3 h4 => z.1 b j (by omega) (by omega) (Or.inr h3) (by omega) h4
  refine ⟨⟨g 125 5 (by omega) (by omega) (by omega) (by omega), fun x hx => (by cases hx), g 125 11 (by omega) (by omega) (by omega) (by omega), g 125 1 (by omega) (by omega) (by omega) (by omega), g 125 2 (by omega) (by omega) (by omega) (by omega), fun q => ?_⟩, ⟨g 125 10 (by omega) (by omega) (by omega) (by omega), fun i hi => (by cases hi)⟩, fun q => (by cases q)⟩
  exact absurd (show (0 : Int) = 4 from q) (by decide)
theorem SHP_0 {R : List (List Nat)} (h : R = RFt) : SHP (shN 155 R kB) := by
  subst h
  refine ⟨Nat.le_refl _, fun a ha => ?_, fun a k _ => rfl⟩
  show (if a < BIG then (if a < 155 then KDt.getD a (0, 0) else (0, 0)) else kB a) = _
  rw [if_pos (by unfold BIG; omega), if_pos ha]
set_option maxRecDepth 100000 in
theorem law_start {n : Nat} (D : Dw) (hL : L ≤ 2147483647) (b1 : 6 * n ≤ L) (b2 : L < 6 * n + 6) (hk : kB BIG = (7, L)) (hx : ∀ j, σ0 BIG j = xs j) : AW mL_law 0 [(0, vR BIG)] [] (shN 1 [[]] kB) σ0 (154 + n) (41856 + 152 * n) (fun r _ _ => r = 1) := by
  have z0 : ZI σ0 σ0 1 := ⟨fun b j h1 h2 => absurd h1 (by omega), fun _ _ _ => rfl⟩
  refine AW_rc (rc := 123 + (n + 1 + 28 + 1) + 1) (rs := 9621 + (152 * n + 1 + 19879 + 54) + 14) ?_ (by omega) (by omega)
  refine n_new (ci := 10) (m := 14) (Rp := []) (row := []) (rest := []) rfl rfl (by decide) rfl dL_law_0 rfl wc_L_8 wn_X10 wz_X10 (fun k _ => dv10 k) (by decide) ?_
  have z1 := z0.push (n := 1) (by decide)
  refine r_dup dL_law_3 rfl ?_
  refine r_callI (z := mX10_init) (as := []) (rc' := 123) (rs' := 9621) dL_law_4 mo_X10_init ws_L_15 wi_X10 rfl rfl rfl (by decide) (Nat.le_of_ble_eq_true rfl) ?_
  refine i_X10_1 (Rp := [[]]) rfl z1 ?_
  intro σ2 z2
  refine n_as (Rp := []) (row := []) (rest := []) rfl ?_
  refine r_astore_n dL_law_7 (by decide) rfl rfl ?_
  refine AW_rc (rc := 28 + (n + 1) + 1) (rs := 19879 + (152 * n + 1) + 54) ?_ (by omega) (by omega)
  refine n_new (ci := 11) (m := 54) (Rp := []) (row := []) rfl rfl (by decide) rfl dL_law_8 rfl wc_L_16 wn_X11 wz_X11 (fun k _ => dv11 k) (by decide) ?_
  have z3 := z2.push (n := 125) (by decide)
  refine r_dup dL_law_11 rfl ?_
  refine r_callI (z := mX11_init) (as := []) (rc' := 28) (rs' := 19879) dL_law_12 mo_X11_init ws_L_18 wi_X11 rfl rfl rfl (by decide) (Nat.le_of_ble_eq_true rfl) ?_
  refine i_X11_125 rfl z3 ?_
  intro σ4 z4
  refine n_as (Rp := []) (row := []) rfl ?_
  refine r_astore_n dL_law_15 (by decide) rfl rfl ?_
  refine r_iconst dL_law_16 ⟨by decide, by decide⟩ ?_
  refine n_newI (m := 1) (kk := 3) (Rp := []) (row := []) rfl rfl (by decide) rfl rfl dL_law_17 (Or.inr (Or.inr ⟨rfl, rfl⟩)) w_newJ rfl (by decide) ?_
  have z5 := z4.push (n := 154) (by decide)
  refine r_astore_n dL_law_19 (by decide) rfl rfl ?_
  refine r_iconst dL_law_20 ⟨by decide, by decide⟩ ?_
  refine r_istore dL_law_21 (by decide) rfl rfl ?_
  refine law_loop (xs := xs) hL n 0 0 _ _ (M0 D) rfl (by omega) (by omega) (SHP_0 (by rfl)) (Nat.le_refl _) ?_ (fun j => ?_) (M0_c z5) (M0_m z5)
  · show (if BIG < BIG then (if BIG < 155 then KDt.getD BIG (0, 0) else (0, 0)) else kB BIG) = _
    rw [if_neg (by omega)]; exact hk
  · rw [z5.2 BIG j (Nat.le_refl _)]; exact hx j
end LST
