/-! Drawing, Meetings: what the methods answer -/
/-- the geometry that a Drawing holds, by a join -/
def geoD (σ : StT) (d : Nat) (j : Int) : Geo := ((σ d 2).toNat, j, (fun e => if e < 2 * (σ d 2).toNat then σ (d + 1) e else 0), fun e => if e < 2 * (σ d 2).toNat then σ (d + 2) e else 0)
/-- a Drawing's bounds -/
def okD (σ : StT) (d : Nat) : Prop := 0 ≤ σ d 2 ∧ σ d 2 ≤ 24 ∧ ∀ e : Nat, (e : Int) < 2 * σ d 2 → (0 ≤ σ (d + 1) e ∧ σ (d + 1) e ≤ 200) ∧ (0 ≤ σ (d + 2) e ∧ σ (d + 2) e ≤ 200)
theorem okD_geo {σ : StT} {d : Nat} {j : Int} (h : okD σ d) (h0 : 0 ≤ j) (h1 : j ≤ 50) : okG (geoD σ d j) := by
  obtain ⟨k1, k2, k3⟩ := h
  refine ⟨by show (σ d 2).toNat ≤ 24; omega, h0, h1, fun e => ?_, fun e => ?_⟩
  · show 0 ≤ (if e < 2 * (σ d 2).toNat then σ (d + 1) e else 0) ∧ (if e < 2 * (σ d 2).toNat then σ (d + 1) e else 0) ≤ 200
    split
    · exact (k3 e (by omega)).1
    · omega
  · show 0 ≤ (if e < 2 * (σ d 2).toNat then σ (d + 2) e else 0) ∧ (if e < 2 * (σ d 2).toNat then σ (d + 2) e else 0) ≤ 200
    split
    · exact (k3 e (by omega)).2
    · omega
theorem geoD_ext {σ σ' : StT} {d : Nat} {j : Int} (h0 : σ' d 2 = σ d 2) (h1 : ∀ e, σ' (d + 1) e = σ (d + 1) e) (h2 : ∀ e, σ' (d + 2) e = σ (d + 2) e) : geoD σ' d j = geoD σ d j := by
  unfold geoD
  rw [h0]
  simp only [h1, h2]
theorem okD_ext {σ σ' : StT} {d : Nat} (h : okD σ d) (h0 : σ' d 2 = σ d 2) (h1 : ∀ e, σ' (d + 1) e = σ (d + 1) e) (h2 : ∀ e, σ' (d + 2) e = σ (d + 2) e) : okD σ' d := by
  unfold okD
  rw [h0]
  simp only [h1, h2]
  exact h
section MEET
variable {S : ShT} {σ : StT} {m dr d : Nat} {Q : Int → StT → Prop}
theorem sp_endsApart {a b : Nat} {j : Int} (hS : SHP S) (hd : isD d) (hk : okD σ d) (ha : (a : Int) < 2 * σ d 2) (hb : (b : Int) < 2 * σ d 2) (hQ : Q (ds (geoD σ d j) a b) σ) : WPs mX0_endsApart [vR d, vI (a : Int), vI (b : Int)] S σ Q := by
  obtain ⟨k1, k2, k3⟩ := hk
  have h1 := k3 a ha
  have h2 := k3 b hb
  have e : ds (geoD σ d j) a b = iab (σ (d + 1) a - σ (d + 1) b) + iab (σ (d + 2) a - σ (d + 2) b) := by
    unfold ds geoD
    simp only [if_pos (show a < 2 * (σ d 2).toNat by omega), if_pos (show b < 2 * (σ d 2).toNat by omega)]
  rw [e] at hQ
  have h5 := iab_le (a := σ (d + 1) a - σ (d + 1) b) (m := 200) (by omega) (by omega)
  have h6 := iab_le (a := σ (d + 2) a - σ (d + 2) b) (m := 200) (by omega) (by omega)
  have h7 := iab_pos (σ (d + 1) a - σ (d + 1) b)
  have h8 := iab_pos (σ (d + 2) a - σ (d + 2) b)
  refine e_X0_endsApart hS hd ?_
  simp only [tn_cast]
  exact ⟨⟨by omega, by omega⟩, ⟨by omega, by omega⟩, inR_s (by omega) (by omega), inR_s (by omega) (by omega), ⟨by omega, by omega⟩, ⟨by omega, by omega⟩, inR_s (by omega) (by omega), inR_s (by omega) (by omega), inR_s (by omega) (by omega), hQ⟩
theorem tieF_le {f : Nat → Nat} {a b i : Nat} (h : f i ≤ i) : tieF f a b i ≤ i := by
  unfold tieF; split <;> omega
theorem tieF_ab (f : Nat → Nat) (a b : Nat) : tieF f a b a = tieF f a b b := by
  unfold tieF; split <;> split <;> omega
theorem tieF_eq {f : Nat → Nat} {a b i j : Nat} (h : f i = f j) : tieF f a b i = tieF f a b j := by unfold tieF; rw [h]
theorem tieF_g {f g : Nat → Nat} {a b i : Nat} (hi : g (f i) = g i) (ha : g (f a) = g a) (hb : g (f b) = g b) (hab : g a = g b) : g (tieF f a b i) = g i := by
  unfold tieF
  split
  · rename_i e
    rcases Nat.le_total (f a) (f b) with h | h
    · rw [Nat.min_eq_left h, ha]; rw [Nat.max_eq_right h] at e; rw [← hi, e, hb, hab]
    · rw [Nat.min_eq_right h, hb]; rw [Nat.max_eq_left h] at e; rw [← hi, e, ha, hab]
  · exact hi
/-- labels on the way: each is reached, none is above its member -/
def semi (R : Nat → Nat → Prop) (n : Nat) (f : Nat → Nat) : Prop := (∀ i, i < n → f i ≤ i) ∧ ∀ g : Nat → Nat, (∀ a b, a < n → b < n → R a b → g a = g b) → ∀ i, i < n → g (f i) = g i
theorem semi.tie {R : Nat → Nat → Prop} {n : Nat} {f : Nat → Nat} {a b : Nat} (h : semi R n f) (ha : a < n) (hb : b < n) (hR : R a b) : semi R n (tieF f a b) :=
  ⟨fun i hi => tieF_le (h.1 i hi), fun g hg i hi => tieF_g (h.2 g hg i hi) (h.2 g hg a ha) (h.2 g hg b hb) (hg a b ha hb hR)⟩
theorem semi.id (R : Nat → Nat → Prop) (n : Nat) : semi R n (fun i => i) := ⟨fun _ _ => Nat.le_refl _, fun _ _ _ _ => rfl⟩
theorem sp_tieNearTo {j : Int} {n x : Nat} {f : Nat → Nat} {G : Geo} (hS : SHP S) (hm : isM m dr) (hk : okD σ dr) (hn : σ dr 2 = n) (hGe : geoD σ dr j = G) (hx : x < 2 * n) (hm4 : σ (m + 1) 4 = ((2 * n : Nat) : Int)) (hf : ∀ i, i < 2 * n → σ (m + 1 + 3) i = f i) (hse : semi (nr G) (2 * n) f) (hQ : ∀ (σ' : StT) (f' : Nat → Nat), σ' (m + 1) 4 = ((2 * n : Nat) : Int) → fr [m + 1 + 3] σ σ' → (∀ i, i < 2 * n → σ' (m + 1 + 3) i = f' i) → semi (nr G) (2 * n) f' → (∀ u y, f u = f y → f' u = f' y) → (∀ y, x < y → y < 2 * n → nr G x y → f' x = f' y) → Q 0 σ') : WPs mX3_tieNearTo [vR m, vI (x : Int), vI ((2 * n : Nat) : Int), vI j] S σ Q := by
  have hlt := isM_lt hm
  have hn24 : n ≤ 24 := by have := hk.2.1; omega
  have hxx := hk.2.2 x (by omega)
  have hGj : G.2.1 = j := by rw [← hGe]; rfl
  refine e_X3_tieNearTo hS hm ⟨⟨by omega, by omega⟩, ?_⟩
  intro x9 hx9
  refine ⟨⟨by omega, by omega⟩, ?_⟩
  intro x20 hx20
  rw [tn_cast] at hx9 hx20
  refine ⟨inR_s (by omega) (by omega), ?_⟩
  refine lup (I := fun b σ' => (x : Int) + 1 ≤ b ∧ σ' (m + 1) 4 = ((2 * n : Nat) : Int) ∧ fr [m + 1 + 3] σ σ' ∧ ∃ f' : Nat → Nat, (∀ i, i < 2 * n → σ' (m + 1 + 3) i = f' i) ∧ semi (nr G) (2 * n) f' ∧ (∀ u y : Nat, f u = f y → f' u = f' y) ∧ ∀ y : Nat, x < y → (y : Int) < b → nr G x y → f' x = f' y) (W := fun b σ' => AWs mX3_tieNearTo 27 [(0, vR m), (1, vI (x : Int)), (2, vI ((2 * n : Nat) : Int)), (3, vI j), (4, vI x9), (5, vI x20), (6, vI b)] [] S σ' Q) ((2 * n : Nat) : Int) ?_ ?_ _ σ ⟨Int.le_refl _, hm4, fr.rf, f, hf, hse, fun _ _ h => h, fun y hy hb => by omega⟩
  · intro b σ3 ⟨hb, hm5, hfr3, f3, hf3, hse3, hd3, he3⟩ hge
    exact t_X3_tieNearTo_27 hS hm ⟨fun _ => hQ σ3 f3 hm5 hfr3 hf3 hse3 hd3 (fun y hy hy2 hR => he3 y hy (by omega) hR), fun q => absurd hge q⟩
  · intro b σ3 ⟨hb, hm5, hfr3, f3, hf3, hse3, hd3, he3⟩ hltb k3
    obtain ⟨y, rfl⟩ := nat_of (show 0 ≤ b by omega)
    have hy2 : y < 2 * n := by omega
    have g2 : σ3 (dr + 1) y = σ (dr + 1) y := hfr3 (dr + 1) (by simp; omega) y
    have g3 : σ3 (dr + 2) y = σ (dr + 2) y := hfr3 (dr + 2) (by simp; omega) y
    have hyy := hk.2.2 y (by omega)
    have e : ds G x y = iab (σ (dr + 1) y - x9) + iab (σ (dr + 2) y - x20) := by
      rw [ds_sym, ← hGe, hx9, hx20]
      unfold ds geoD
      simp only [if_pos (show x < 2 * (σ dr 2).toNat by omega), if_pos (show y < 2 * (σ dr 2).toNat by omega)]
    have h5 := iab_le (a := σ (dr + 1) y - x9) (m := 200) (by omega) (by omega)
    have h6 := iab_le (a := σ (dr + 2) y - x20) (m := 200) (by omega) (by omega)
    have h7 := iab_pos (σ (dr + 1) y - x9)
    have h8 := iab_pos (σ (dr + 2) y - x20)
    refine t_X3_tieNearTo_27 hS hm ⟨fun q => absurd q (by omega), fun _ => ?_⟩
    simp only [tn_cast, g2, g3]
    refine ⟨⟨by omega, by omega⟩, inR_s (by omega) (by omega), inR_s (by omega) (by omega), ⟨by omega, by omega⟩, inR_s (by omega) (by omega), inR_s (by omega) (by omega), inR_s (by omega) (by omega), fun q3 => ⟨inR_s (by omega) (by omega), k3 σ3 ⟨by omega, hm5, hfr3, f3, hf3, hse3, hd3, fun z hz hzb hR => ?_⟩⟩, fun q3 => ?_⟩
    · by_cases e2 : z = y
      · subst e2; unfold nr at hR; omega
      · exact he3 z hz (by omega) hR
    · have hR : nr G x y := by unfold nr; omega
      refine sp_tie (f := f3) hS (isM_E hm) hm5 (by omega) hx hy2 (fun i hi => ⟨hf3 i hi, hse3.1 i hi⟩) ?_
      intro σ4 d1 d2
      refine ⟨inR_s (by omega) (by omega), k3 σ4 ⟨by omega, by rw [d2 (m + 1) (by simp) 4]; exact hm5, hfr3.trans d2, tieF f3 x y, d1, hse3.tie hx hy2 hR, fun u z h => tieF_eq (hd3 u z h), fun z hz hzb hR2 => ?_⟩⟩
      by_cases e2 : z = y
      · subst e2; exact tieF_ab f3 x z
      · exact tieF_eq (he3 z hz (by omega) hR2)
/-- what gatherEnds leaves: meetings of ends, their numbers, their points -/
def atE (σ : StT) (m : Nat) (G : Geo) : Prop := σ (m + 1) 2 = mcn G ∧ (∀ e, e < 2 * G.1 → σ (m + 1 + 1) e = mt G e) ∧ (∀ k, k < mcn G → σ (m + 1 + 2) k = fe G k) ∧ (∀ k, k < mcn G → σ (m + 9) k = G.2.2.1 (fe G k)) ∧ ∀ k, k < mcn G → σ (m + 10) k = G.2.2.2 (fe G k)
theorem sp_gatherEnds {j : Int} (hS : SHP S) (hm : isM m dr) (hk : okD σ dr) (h0 : 0 ≤ j) (h1 : j ≤ 50) (hQ : ∀ σ' : StT, atE σ' m (geoD σ dr j) → fr [m + 1, m + 1 + 1, m + 1 + 2, m + 1 + 3, m + 9, m + 10] σ σ' → Q 0 σ') : WPs mX3_gatherEnds [vR m, vI j] S σ Q := by
  have hlt := isM_lt hm
  have hG := okD_geo hk h0 h1
  obtain ⟨n, hn⟩ := nat_of hk.1
  have hn24 : n ≤ 24 := by have := hk.2.1; omega
  generalize hGe : geoD σ dr j = G at hQ hG
  have hG1 : G.1 = n := by rw [← hGe]; show (σ dr 2).toNat = n; omega
  have hGj : G.2.1 = j := by rw [← hGe]; rfl
  have frD : ∀ {σ' : StT}, fr [m + 1, m + 1 + 1, m + 1 + 2, m + 1 + 3, m + 9, m + 10] σ σ' → σ' dr 2 = σ dr 2 ∧ (∀ e, σ' (dr + 1) e = σ (dr + 1) e) ∧ ∀ e, σ' (dr + 2) e = σ (dr + 2) e := fun h =>
    ⟨h dr (by simp; omega) 2, fun e => h (dr + 1) (by simp; omega) e, fun e => h (dr + 2) (by simp; omega) e⟩
  refine e_X3_gatherEnds hS hm ⟨inR_s (by omega) (by omega), ?_⟩
  have e2 : 2 * σ dr 2 = ((2 * n : Nat) : Int) := by omega
  rw [e2]
  refine sp_begin hS (isM_E hm) (by omega) ?_
  intro σ1 b1 b2 b3 b4
  have fr1 : fr [m + 1, m + 1 + 1, m + 1 + 2, m + 1 + 3, m + 9, m + 10] σ σ1 := b4.mono (by simp)
  -- the outer loop
  refine lup (I := fun a σ' => 0 ≤ a ∧ σ' (m + 1) 4 = ((2 * n : Nat) : Int) ∧ fr [m + 1, m + 1 + 1, m + 1 + 2, m + 1 + 3, m + 9, m + 10] σ σ' ∧ ∃ f : Nat → Nat, (∀ i, i < 2 * n → σ' (m + 1 + 3) i = f i) ∧ semi (nr G) (2 * n) f ∧ ∀ x y : Nat, (x : Int) < a → x < y → y < 2 * n → nr G x y → f x = f y) (W := fun a σ' => AWs mX3_gatherEnds 20 [(0, vR m), (1, vI j), (2, vI ((2 * n : Nat) : Int)), (3, vI a)] [] S σ' Q) ((2 * n : Nat) : Int) ?_ ?_ 0 σ1 ?_
  · intro a σ2 ⟨ha, hm4, hfr, f, hf, hse, hd⟩ hge
    have hLAB : LAB (nr G) (2 * n) f := by
      refine ⟨hse.1, fun x y hx hy hR => ?_, hse.2⟩
      rcases Nat.lt_trichotomy x y with h | h | h
      · exact hd x y (by omega) h hy hR
      · rw [h]
      · refine (hd y x (by omega) h hx ?_).symm
        unfold nr at hR ⊢
        rw [ds_sym]; exact hR
    have hfe : ∀ i, i < 2 * n → hdE G i = f i := by
      intro i hi
      have := labF_eq hLAB i hi
      unfold hdE
      rw [hG1]; exact this
    refine t_X3_gatherEnds_20 hS hm ⟨fun _ => ?_, fun q => absurd hge q⟩
    refine sp_numberAll hS (isM_E hm) hm4 (by omega) (fun i hi => ⟨hf i hi, hse.1 i hi, hLAB.idem hi⟩) ?_
    intro σ3 c1 c2 c3 c4 c5
    have hmc : rk f (2 * n) = mcn G := by
      unfold mcn
      rw [hG1]
      exact (rk_ext hfe (2 * n) (Nat.le_refl _)).symm
    have fr3 : fr [m + 1, m + 1 + 1, m + 1 + 2, m + 1 + 3, m + 9, m + 10] σ σ3 := hfr.trans (c5.mono (by simp))
    have hml := mcn_le G
    have s1 : σ3 (m + 1) 2 = mcn G := by rw [c1, hmc]
    have s2 : ∀ e, e < 2 * G.1 → σ3 (m + 1 + 1) e = mt G e := by
      intro e he
      rw [hG1] at he
      rw [c2 e he]
      unfold mt
      rw [hfe e he]
      have := hse.1 e he
      rw [rk_ext hfe (f e) (by omega)]
    have s3 : ∀ k, k < mcn G → σ3 (m + 1 + 2) k = fe G k := by
      intro k hk
      rw [c3 k (by omega)]
      unfold fe
      rw [hG1, nth_ext hfe k (2 * n) (Nat.le_refl _)]
    refine lup (I := fun i σ' => 0 ≤ i ∧ i ≤ mcn G ∧ σ' (m + 1) 2 = mcn G ∧ (∀ e, e < 2 * G.1 → σ' (m + 1 + 1) e = mt G e) ∧ (∀ k, k < mcn G → σ' (m + 1 + 2) k = fe G k) ∧ (∀ k : Nat, (k : Int) < i → σ' (m + 9) k = G.2.2.1 (fe G k)) ∧ (∀ k : Nat, (k : Int) < i → σ' (m + 10) k = G.2.2.2 (fe G k)) ∧ fr [m + 1, m + 1 + 1, m + 1 + 2, m + 1 + 3, m + 9, m + 10] σ σ') (W := fun i σ' => AWs mX3_gatherEnds 47 [(0, vR m), (3, vI i)] [] S σ' Q) (mcn G) ?_ ?_ 0 σ3 ⟨by omega, by omega, s1, s2, s3, fun k hk => by omega, fun k hk => by omega, fr3⟩
    · intro i σ4 ⟨i0, i1, i2, i3, i4, i5, i6, i7⟩ h
      refine t_X3_gatherEnds_47 hS hm ⟨fun _ => hQ σ4 ⟨i2, i3, i4, fun k hk => i5 k (by omega), fun k hk => i6 k (by omega)⟩ i7, fun q => absurd (by rw [i2]; exact h) q⟩
    · intro i σ4 ⟨i0, i1, i2, i3, i4, i5, i6, i7⟩ h k
      obtain ⟨t, rfl⟩ := nat_of i0
      have ht : t < mcn G := by omega
      have hfe2 := (fe_ok ht).1
      have h48 : fe G t < 48 := by omega
      refine t_X3_gatherEnds_47 hS hm ⟨fun q => absurd q (by rw [i2]; omega), fun _ => ?_⟩
      simp only [tn_cast, i4 t ht]
      obtain ⟨g1, g2, g3⟩ := frD i7
      have hxx : G.2.2.1 (fe G t) = σ (dr + 1) (fe G t) := by
        rw [← hGe]; show (if _ < 2 * (σ dr 2).toNat then _ else _) = _
        rw [hGe, if_pos (by omega)]
      have hyy : G.2.2.2 (fe G t) = σ (dr + 2) (fe G t) := by
        rw [← hGe]; show (if _ < 2 * (σ dr 2).toNat then _ else _) = _
        rw [hGe, if_pos (by omega)]
      refine ⟨⟨by omega, by omega⟩, ⟨by omega, by omega⟩, ⟨by omega, by omega⟩, ⟨by omega, by omega⟩, ⟨by omega, by omega⟩, ⟨by omega, by omega⟩, inR_s (by omega) (by omega), k _ ⟨by omega, by omega, ?_, ?_, ?_, ?_, ?_, ?_⟩⟩
      · rw [up2_a (by omega), up2_a (by omega)]; exact i2
      · intro e he; rw [up2_a (by omega), up2_a (by omega)]; exact i3 e he
      · intro e he; rw [up2_a (by omega), up2_a (by omega)]; exact i4 e he
      · intro e he
        rw [up2_a (by omega)]
        by_cases q : e = t
        · subst q; rw [up2_s, g2, hxx]
        · rw [up2_i q]; exact i5 e (by omega)
      · intro e he
        by_cases q : e = t
        · subst q; rw [up2_s, g3, hyy]
        · rw [up2_i q, up2_a (by omega)]; exact i6 e (by omega)
      · exact (i7.put (by simp)).put (by simp)
  · intro a σ2 ⟨ha, hm4, hfr, f, hf, hse, hd⟩ hlt2 kk
    obtain ⟨x, rfl⟩ := nat_of ha
    obtain ⟨g1, g2, g3⟩ := frD hfr
    have hok2 : okD σ2 dr := okD_ext hk g1 g2 g3
    have hge2 : geoD σ2 dr j = G := (geoD_ext g1 g2 g3).trans hGe
    refine t_X3_gatherEnds_20 hS hm ⟨fun q => absurd q (by omega), fun _ => ?_⟩
    refine sp_tieNearTo (n := n) hS hm hok2 (by rw [g1]; exact hn) hge2 (by omega) hm4 hf hse ?_
    intro σ3 f3 hm5 hfr3 hf3 hse3 hd3 he3
    refine ⟨inR_s (by omega) (by omega), kk σ3 ⟨by omega, hm5, hfr.trans (hfr3.mono (by simp)), f3, hf3, hse3, fun u y hu huy hy hR => ?_⟩⟩
    by_cases e : u = x
    · subst e; exact he3 y huy hy hR
    · exact hd3 u y (hd u y (by omega) huy hy hR)
  · refine ⟨by omega, b1, fr1, fun i => i, fun i hi => b2 i hi, semi.id _ _, fun x y hx => by omega⟩
end MEET
