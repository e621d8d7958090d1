/-! Model: a ring, and its place in the walk -/
def kpM (σ σ' : StT) (G : Geo) (p : Nat) : Prop := ∀ q go2, q ≠ p → q < pcn G → gnM σ G q go2 → gnM σ' G q go2
theorem kpM.rf {σ : StT} {G : Geo} {p : Nat} : kpM σ σ G p := fun _ _ _ _ h => h
theorem kpM.trans {σ σ1 σ2 : StT} {G : Geo} {p : Nat} (h : kpM σ σ1 G p) (k : kpM σ1 σ2 G p) : kpM σ σ2 G p := fun q g h1 h2 h3 => k q g h1 h2 (h q g h1 h2 h3)
theorem gnM.ext {σ σ' : StT} {G : Geo} {p : Nat} {go : Nat → Bool} (h : gnM σ G p go) (h1 : ∀ j, σ' 141 j = σ 141 j) (h2 : ∀ j, σ' 142 j = σ 142 j) : gnM σ' G p go :=
  ⟨fun s a b => by rw [h1]; exact h.1 s a b, fun i a b => by rw [h2]; exact h.2 i a b⟩
theorem kpM.of {σ σ' : StT} {G : Geo} {p : Nat} (h1 : ∀ j, σ' 141 j = σ 141 j) (h2 : ∀ j, σ' 142 j = σ 142 j) : kpM σ σ' G p := fun _ _ _ _ h => h.ext h1 h2
theorem rfr_fst (g : Gr) : ∀ (m : Nat) (l : List Nat) (j : Nat), j < l.length → ((rfr g m l).getD j (0, 0)).1 = (m :: rsp g m l).getD j 0
  | m, [], j, h => absurd h (by simp)
  | m, e :: l, 0, h => rfl
  | m, e :: l, j + 1, h => rfr_fst g (oe g e m) l j (by simpa using h)
def wsM (σ : StT) (G : Geo) (W : List (Nat × Nat)) (sp : List Nat) : Prop := σ 125 40 = W.length ∧ (∀ k, k < W.length → σ 143 k = wcd G (W.getD k (0, 0))) ∧ ∀ k, k ≤ W.length → σ 144 k = sp.getD k 0
section MRING
variable {S : ShT} {σ : StT} {Q : Int → StT → Prop}
theorem m_ringGo {G : Geo} {p at_ : Nat} (hS : SHP S) (hp : p < pcn G) : ∀ (l : List Nat) (σ : StT) (go go' : Nat → Bool) (m m' k : Nat), wM σ G → pt G m = p → gnM σ G p go → k + lft (gP G p) go ≤ 48 → isRing (gP G p) go m l go' m' →
    (∀ σ' : StT, gnM σ' G p go' → kpM σ σ' G p → (∀ j, j < l.length → σ' 145 (k + j) = wcd G ((rfr (gP G p) m l).getD j (0, 0))) → (∀ j, j < l.length → σ' 146 (k + j) = ((rfr (gP G p) m l).getD j (0, 0)).1) → (∀ j, j < k → σ' 145 j = σ 145 j) → (∀ j, j < k → σ' 146 j = σ 146 j) → fr [141, 142, 145, 146] σ σ' → AWs mX11_goesFrom 94 [(0, vR 125), (1, vI (at_ : Int)), (2, vI (m' : Int)), (3, vI ((k + l.length : Nat) : Int)), (5, vI (σ' 125 40))] [] S σ' Q) → AWs mX11_goesFrom 16 [(0, vR 125), (1, vI (at_ : Int)), (2, vI (m : Int)), (3, vI (k : Int)), (4, vI (nxv G p go m (-2)))] [] S σ Q
  | [], σ, go, go', m, m', k, h, hmp, hg, hl, hr, hQ => by
    obtain ⟨rfl, rfl, hr3⟩ := hr
    refine t_X11_goesFrom_16 hS ⟨fun _ => ?_, fun q => absurd (nxv_n hr3) q⟩
    have := hQ σ hg kpM.rf (fun j hj => absurd hj (by simp)) (fun j hj => absurd hj (by simp)) (fun _ _ => rfl) (fun _ _ => rfl) fr.rf
    exact this
  | e :: l, σ, go, go', m, m', k, h, hmp, hg, hl, hr, hQ => by
    obtain ⟨hr1, hr2⟩ := hr
    have hn := h.2.1
    have hlt := lft_mk hr1
    obtain ⟨n1, n2, n3, n4⟩ := nx_ok hr1
    have n2' : eX G p e = true := n2
    have hA := PN_24 (G := G) hn (Nat.le_refl (pcn G))
    have hmo := PN_mono G (show p + 1 ≤ pcn G by omega)
    have hb := wcd_ne (G := G) (m := m) (e := e)
    -- behind the mark
    have fin : ∀ σ1 : StT, σ1 145 = (up2 (up2 σ 145 k (wcd G (m, e))) 146 k (m : Int)) 145 → σ1 146 = (up2 (up2 σ 145 k (wcd G (m, e))) 146 k (m : Int)) 146 → fr [141, 142, 145, 146] σ σ1 → gnM σ1 G p (mk1 go e) → kpM σ σ1 G p → AWs mX11_goesFrom 70 [(0, vR 125), (1, vI (at_ : Int)), (2, vI (m : Int)), (3, vI ((k : Int) + 1)), (4, vI (wcd G (m, e)))] [] S σ1 Q := by
      intro σ1 e5 e6 f1 g1 k1
      have h1 : wM σ1 G := h.ext (fun b b1 b2 => f1 b (by simp; omega)) (fun j _ _ => f1 125 (by decide) j)
      refine t_X11_goesFrom_70 hS (m_across hS h1 hp n2' n1 ?_)
      refine m_nextWay hS h1 hp (oe_pt hp n2').2 g1 ?_
      refine m_ringGo hS hp l σ1 (mk1 go e) go' (oe (gP G p) e m) m' (k + 1) h1 (oe_pt hp n2').2 g1 (by omega) hr2 ?_
      intro σ2 g2 k2 a5 a6 b5 b6 f2
      have a145 : ∀ j, σ1 145 j = if j = k then wcd G (m, e) else σ 145 j := fun j => by
        rw [e5, up2_a (by decide)]
        by_cases c : j = k
        · rw [if_pos c, c, up2_s]
        · rw [if_neg c, up2_i c]
      have a146 : ∀ j, σ1 146 j = if j = k then (m : Int) else σ 146 j := fun j => by
        rw [e6]
        by_cases c : j = k
        · rw [if_pos c, c, up2_s]
        · rw [if_neg c, up2_i c, up2_a (by decide)]
      have hQ' := hQ σ2 g2 (k1.trans k2) (fun j hj => ?_) (fun j hj => ?_) (fun j hj => ?_) (fun j hj => ?_) (f1.trans f2)
      · rw [show k + 1 + l.length = k + (e :: l).length by simp; omega]; exact hQ'
      · cases j with
        | zero => rw [Nat.add_zero, b5 k (by omega), a145, if_pos rfl]; rfl
        | succ j => rw [show k + (j + 1) = k + 1 + j by omega, a5 j (by simpa using hj)]; rfl
      · cases j with
        | zero => rw [Nat.add_zero, b6 k (by omega), a146, if_pos rfl]; rfl
        | succ j => rw [show k + (j + 1) = k + 1 + j by omega, a6 j (by simpa using hj)]; rfl
      · rw [b5 j (by omega), a145, if_neg (by omega)]
      · rw [b6 j (by omega), a146, if_neg (by omega)]
    refine t_X11_goesFrom_16 hS ?_
    rw [nxv_s hr1]
    refine ⟨fun q => absurd q hb.2.1, fun _ => ⟨⟨by omega, by omega⟩, ⟨by omega, by omega⟩, inR_s (by omega) (by omega), fun q => ?_, fun q => ?_⟩⟩
    · have he24 : ¬ e < 24 := fun c => by
        rcases wcd_st (G := G) (m := m) c with q1 | q1 <;> omega
      obtain ⟨i, rfl⟩ : ∃ i, e = 24 + i := ⟨e - 24, by omega⟩
      obtain ⟨x1, x2, x3⟩ := eX_hp n2'
      have ei : (-3 - wcd G (m, 24 + i)).toNat = i := by rw [wcd_h]; omega
      have ei2 : -3 - wcd G (m, 24 + i) = (i : Int) := by rw [wcd_h]; omega
      rw [ei, ei2, tn_cast]
      refine ⟨inR_s (by omega) (by omega), ⟨by omega, by omega⟩, fin _ ?_ ?_ (((fr.rf.put (by simp)).put (by simp)).put (by simp)) ⟨fun s a b => ?_, fun j a b => ?_⟩ (fun pz g h1 h2 h3 => ⟨fun s a b => ?_, fun j a b => ?_⟩)⟩
      · funext j; rw [up2_a (by decide)]
      · funext j; rw [up2_a (by decide)]
      · rw [up2_a (by decide), up2_a (by decide), up2_a (by decide), hg.1 s a b]; simp [mk1, show ¬ s = 24 + i by omega]
      · by_cases c : j = i
        · subst c; rw [up2_s]; simp [mk1]
        · rw [up2_i c, up2_a (by decide), up2_a (by decide), hg.2 j a b]; simp [mk1, c]
      · rw [up2_a (by decide), up2_a (by decide), up2_a (by decide)]; exact h3.1 s a b
      · rw [up2_i, up2_a (by decide), up2_a (by decide), h3.2 j a b]
        intro eji
        subst eji
        rcases Nat.lt_or_gt_of_ne h1 with c | c
        · have := PN_mono G (show pz + 1 ≤ p by omega); omega
        · have := PN_mono G (show p + 1 ≤ pz by omega); omega
    · have he24 : e < 24 := by
        by_cases c : e < 24
        · exact c
        · obtain ⟨i, rfl⟩ : ∃ i, e = 24 + i := ⟨e - 24, by omega⟩
          rw [wcd_h] at q; omega
      obtain ⟨x1, x2⟩ := eX_st n2' he24
      have hd : wcd G (m, e) / 2 = (e : Int) := by
        rcases wcd_st (G := G) (m := m) he24 with q1 | q1 <;> omega
      rw [hd, tn_cast, tn_cast]
      refine ⟨by omega, ⟨by omega, by omega⟩, fin _ ?_ ?_ (((fr.rf.put (by simp)).put (by simp)).put (by simp)) ⟨fun s a b => ?_, fun j a b => ?_⟩ (fun pz g h1 h2 h3 => ⟨fun s a b => ?_, fun j a b => ?_⟩)⟩
      · funext j; rw [up2_a (by decide)]
      · funext j; rw [up2_a (by decide)]
      · by_cases c : s = e
        · subst c; rw [up2_s]; simp [mk1]
        · rw [up2_i c, up2_a (by decide), up2_a (by decide), hg.1 s a b]; simp [mk1, c]
      · rw [up2_a (by decide), up2_a (by decide), up2_a (by decide), hg.2 j a b]
        simp [mk1, show ¬ 24 + j = e by omega]
      · rw [up2_i (fun c => by subst c; exact h1 (b.symm.trans x2)), up2_a (by decide), up2_a (by decide), h3.1 s a b]
      · rw [up2_a (by decide), up2_a (by decide), up2_a (by decide)]; exact h3.2 j a b
theorem m_putRing {k wl rl m' : Nat} (hS : SHP S) (h40 : σ 125 40 = wl) (hk : k ≤ wl) (hl : wl + rl ≤ 48) (h0 : 0 < rl)
    (hQ : ∀ σ' : StT, σ' 125 40 = ((wl + rl : Nat) : Int) → (∀ i, i < wl + rl → σ' 143 i = if i < k then σ 143 i else if i < k + rl then σ 145 (i - k) else σ 143 (i - rl)) → (∀ i, i ≤ wl + rl → σ' 144 i = if i < k then σ 144 i else if i < k + rl then σ 146 (i - k) else if i = k + rl then (m' : Int) else σ 144 (i - rl)) → fr [125, 143, 144] σ σ' → (∀ j, j ≠ 40 → σ' 125 j = σ 125 j) → Q 0 σ') : AWs mX11_goesFrom 94 [(0, vR 125), (1, vI (k : Int)), (2, vI (m' : Int)), (3, vI (rl : Int)), (5, vI (wl : Int))] [] S σ Q := by
  refine ldn (I := fun v σ' => (k : Int) - 1 ≤ v ∧ v ≤ wl ∧ (∀ i : Nat, (i : Int) ≤ v + rl → σ' 144 i = σ 144 i) ∧ (∀ i : Nat, v < i → i ≤ wl → σ' 144 (i + rl) = σ 144 i) ∧ fr [144] σ σ') (W := fun v σ' => AWs mX11_goesFrom 94 [(0, vR 125), (1, vI (k : Int)), (2, vI (m' : Int)), (3, vI (rl : Int)), (5, vI v)] [] S σ' Q) (k : Int) ?_ ?_ (wl : Int) σ ⟨by omega, by omega, fun _ _ => rfl, fun i a b => by omega, fr.rf⟩
  · rintro v σ1 ⟨i0, i00, i1, i2, i5⟩ hv
    have e40 : σ1 125 40 = wl := by rw [i5 125 (by decide)]; exact h40
    refine t_X11_goesFrom_94 hS ⟨fun _ => ?_, fun q => absurd hv q⟩
    rw [e40]
    refine ⟨inR_s (by omega) (by omega), fun x hx => ?_⟩
    subst hx
    have ev : v = (k : Int) - 1 := by omega
    subst ev
    refine ldn (I := fun v σ' => (k : Int) - 1 ≤ v ∧ v < wl ∧ (∀ i : Nat, (i : Int) ≤ v + rl → σ' 143 i = σ 143 i) ∧ (∀ i : Nat, v < i → i < wl → σ' 143 (i + rl) = σ 143 i) ∧ fr [143] σ1 σ') (W := fun v σ' => AWs mX11_goesFrom 130 [(0, vR 125), (1, vI (k : Int)), (2, vI (m' : Int)), (3, vI (rl : Int)), (5, vI v)] [] S σ' Q) (k : Int) ?_ ?_ ((wl : Int) - 1) σ1 ⟨by omega, by omega, fun i _ => i5 143 (by decide) i, fun i a b => by omega, fr.rf⟩
    · rintro w σ2 ⟨j0, j00, j1, j2, j5⟩ hw
      refine t_X11_goesFrom_130 hS ⟨fun _ => ?_, fun q => absurd hw q⟩
      have ew : w = (k : Int) - 1 := by omega
      subst ew
      have F2 : fr [143, 144] σ σ2 := (i5.mono (by simp)).trans (j5.mono (by simp))
      refine lup (I := fun v σ' => 0 ≤ v ∧ v ≤ rl ∧ (∀ i : Nat, (i : Int) < v → σ' 143 (k + i) = σ 145 i) ∧ (∀ i : Nat, (i < k ∨ (k : Int) + v ≤ i) → σ' 143 i = σ2 143 i) ∧ (∀ i : Nat, (i : Int) < v → σ' 144 (k + i) = σ 146 i) ∧ (∀ i : Nat, (i < k ∨ (k : Int) + v ≤ i) → σ' 144 i = σ1 144 i) ∧ fr [143, 144] σ σ') (W := fun v σ' => AWs mX11_goesFrom 161 [(0, vR 125), (1, vI (k : Int)), (2, vI (m' : Int)), (3, vI (rl : Int)), (5, vI v)] [] S σ' Q) (rl : Int) ?_ ?_ 0 σ2 ⟨by omega, by omega, fun i a => by omega, fun _ _ => rfl, fun i a => by omega, fun i _ => j5 144 (by decide) i, F2⟩
      · rintro w σ3 ⟨l0, l00, l1, l2, l3, l4, l5⟩ hw
        have ew : w = (rl : Int) := by omega
        subst ew
        refine t_X11_goesFrom_161 hS ?_
        rw [l5 125 (by decide), h40]
        refine ⟨fun _ => ⟨inR_s (by omega) (by omega), inR_s (by omega) (by omega), ⟨by omega, by omega⟩, ?_⟩, fun q => absurd hw q⟩
        rw [show ((k : Int) + (rl : Int)).toNat = k + rl by omega]
        refine hQ _ (by rw [up2_a (by decide), up2_s]; omega) (fun i hi => ?_) (fun i hi => ?_) (((l5.mono (by simp)).put (by simp)).put (by simp)) (fun j hj => by rw [up2_a (by decide), up2_i hj, l5 125 (by decide)])
        · rw [up2_a (by decide), up2_a (by decide)]
          by_cases c : i < k
          · rw [if_pos c, l2 i (Or.inl c), j1 i (by omega)]
          · rw [if_neg c]
            by_cases c2 : i < k + rl
            · rw [if_pos c2]
              have := l1 (i - k) (by omega)
              rw [show k + (i - k) = i by omega] at this
              exact this
            · rw [if_neg c2, l2 i (Or.inr (by omega))]
              have := j2 (i - rl) (by omega) (by omega)
              rw [show i - rl + rl = i by omega] at this
              exact this
        · by_cases c3 : i = k + rl
          · rw [c3, up2_s, if_neg (by omega), if_neg (by omega), if_pos rfl]
          · rw [up2_i c3, up2_a (by decide)]
            by_cases c : i < k
            · rw [if_pos c, l4 i (Or.inl c), i1 i (by omega)]
            · rw [if_neg c]
              by_cases c2 : i < k + rl
              · rw [if_pos c2]
                have := l3 (i - k) (by omega)
                rw [show k + (i - k) = i by omega] at this
                exact this
              · rw [if_neg c2, if_neg c3, l4 i (Or.inr (by omega))]
                have := i2 (i - rl) (by omega) (by omega)
                rw [show i - rl + rl = i by omega] at this
                exact this
      · rintro w σ3 ⟨l0, l00, l1, l2, l3, l4, l5⟩ hw kk
        obtain ⟨t, rfl⟩ := nat_of l0
        refine t_X11_goesFrom_161 hS ⟨fun q => absurd q (by omega), fun _ => ⟨inR_s (by omega) (by omega), ⟨by omega, by omega⟩, ⟨by omega, by omega⟩, inR_s (by omega) (by omega), ⟨by omega, by omega⟩, ⟨by omega, by omega⟩, inR_s (by omega) (by omega), kk _ ⟨by omega, by omega, fun i a => ?_, fun i a => ?_, fun i a => ?_, fun i a => ?_, (l5.put (by simp)).put (by simp)⟩⟩⟩
        · rw [show ((k : Int) + (t : Int)).toNat = k + t by omega, tn_cast, up2_a (by decide)]
          by_cases c : i = t
          · subst c; rw [up2_s, l5 145 (by decide)]
          · rw [up2_i (by omega), l1 i (by omega)]
        · rw [show ((k : Int) + (t : Int)).toNat = k + t by omega, up2_a (by decide), up2_i (by omega)]
          exact l2 i (by omega)
        · rw [show ((k : Int) + (t : Int)).toNat = k + t by omega, tn_cast]
          by_cases c : i = t
          · subst c; rw [up2_s, l5 146 (by decide)]
          · rw [up2_i (by omega), up2_a (by decide), l3 i (by omega)]
        · rw [show ((k : Int) + (t : Int)).toNat = k + t by omega, up2_i (by omega), up2_a (by decide)]
          exact l4 i (by omega)
    · rintro v σ2 ⟨j0, j00, j1, j2, j5⟩ hv kk
      obtain ⟨t, rfl⟩ := nat_of (show 0 ≤ v by omega)
      refine t_X11_goesFrom_130 hS ⟨fun q => absurd q (by omega), fun _ => ⟨inR_s (by omega) (by omega), ⟨by omega, by omega⟩, ⟨by omega, by omega⟩, inR_s (by omega) (by omega), kk _ ⟨by omega, by omega, fun i a => ?_, fun i a b => ?_, j5.put (by simp)⟩⟩⟩
      · rw [show ((t : Int) + (rl : Int)).toNat = t + rl by omega, up2_i (by omega)]
        exact j1 i (by omega)
      · rw [show ((t : Int) + (rl : Int)).toNat = t + rl by omega, tn_cast]
        by_cases c : i = t
        · subst c; rw [up2_s]; exact j1 i (by omega)
        · rw [up2_i (by omega)]; exact j2 i (by omega) b
  · rintro v σ1 ⟨i0, i00, i1, i2, i5⟩ hv kk
    obtain ⟨t, rfl⟩ := nat_of (show 0 ≤ v by omega)
    refine t_X11_goesFrom_94 hS ⟨fun q => absurd q (by omega), fun _ => ⟨inR_s (by omega) (by omega), ⟨by omega, by omega⟩, ⟨by omega, by omega⟩, inR_s (by omega) (by omega), kk _ ⟨by omega, by omega, fun i a => ?_, fun i a b => ?_, i5.put (by simp)⟩⟩⟩
    · rw [show ((t : Int) + (rl : Int)).toNat = t + rl by omega, up2_i (by omega)]
      exact i1 i (by omega)
    · rw [show ((t : Int) + (rl : Int)).toNat = t + rl by omega, tn_cast]
      by_cases c : i = t
      · subst c; rw [up2_s]; exact i1 i (by omega)
      · rw [up2_i (by omega)]; exact i2 i (by omega) b
theorem m_goesFrom {G : Geo} {p k m' : Nat} {l : List Nat} {go go' : Nat → Bool} {W : List (Nat × Nat)} {sp : List Nat} (hS : SHP S) (hp : p < pcn G) (h : wM σ G) (hg : gnM σ G p go) (hw : wsM σ G W sp) (hsl : sp.length = W.length + 1) (hk : k ≤ W.length) (hm : pt G (sp.getD k 0) = p) (hl : W.length + lft (gP G p) go ≤ 48) (hr : isRing (gP G p) go (sp.getD k 0) l go' m') (hl0 : l ≠ [])
    (hQ : ∀ σ' : StT, gnM σ' G p go' → kpM σ σ' G p → wsM σ' G (insW W (rfr (gP G p) (sp.getD k 0) l) k) (insS sp (rsp (gP G p) (sp.getD k 0) l) k) → fr [125, 141, 142, 143, 144, 145, 146] σ σ' → (∀ j, j ≠ 40 → σ' 125 j = σ 125 j) → Q 0 σ') : WPs mX11_goesFrom [vR 125, vI (k : Int)] S σ Q := by
  have hlp : 0 < l.length := List.length_pos_iff.mpr hl0
  have hlf := ring_lft hr
  refine e_X11_goesFrom hS ⟨⟨by omega, by omega⟩, fun x hx => ?_⟩
  rw [tn_cast, hw.2.2 k hk] at hx
  subst hx
  refine m_nextWay hS h hp hm hg ?_
  refine m_ringGo hS hp l σ go go' (sp.getD k 0) m' 0 h hm hg (by omega) hr ?_
  intro σ1 g1 k1 a5 a6 _ _ f1
  rw [f1 125 (by decide), hw.1, Nat.zero_add]
  refine m_putRing hS (by rw [f1 125 (by decide)]; exact hw.1) hk (by omega) hlp ?_
  intro σ2 c40 c143 c144 f2 b2
  have lf := rfr_len (gP G p) (sp.getD k 0) l
  have ls := rsp_len (gP G p) (sp.getD k 0) l
  have hch := (ring_chn hr).2
  refine hQ σ2 (g1.ext (fun j => f2 141 (by decide) j) (fun j => f2 142 (by decide) j)) (k1.trans (kpM.of (fun j => f2 141 (by decide) j) (fun j => f2 142 (by decide) j))) ⟨?_, fun i hi => ?_, fun i hi => ?_⟩ ((f1.mono (by simp)).trans (f2.mono (by simp))) (fun j hj => by rw [b2 j hj, f1 125 (by decide)])
  · rw [c40, insW_len hk, lf]
  · rw [insW_len hk, lf] at hi
    rw [c143 i hi, insW_get hk, lf]
    by_cases c : i < k
    · rw [if_pos c, if_pos c, f1 143 (by decide), hw.2.1 i (by omega)]
    · rw [if_neg c, if_neg c]
      by_cases c2 : i < k + l.length
      · rw [if_pos c2, if_pos c2]
        have := a5 (i - k) (by omega)
        rw [Nat.zero_add] at this; exact this
      · rw [if_neg c2, if_neg c2, f1 143 (by decide), hw.2.1 _ (by omega)]
  · rw [insW_len hk, lf] at hi
    rw [c144 i hi, insS_get (by omega), ls]
    by_cases c : i < k
    · rw [if_pos c, if_pos (by omega), f1 144 (by decide), hw.2.2 i (by omega)]
    · rw [if_neg c]
      by_cases c2 : i < k + l.length
      · rw [if_pos c2]
        have := a6 (i - k) (by omega)
        rw [Nat.zero_add, rfr_fst _ _ _ _ (by omega)] at this
        rw [this]
        by_cases c3 : i = k
        · subst c3; rw [Nat.sub_self, if_pos (by omega)]; rfl
        · rw [if_neg (by omega), if_pos (by omega)]
          obtain ⟨j, rfl⟩ : ∃ j, i = k + 1 + j := ⟨i - k - 1, by omega⟩
          rw [show k + 1 + j - k = j + 1 by omega, show k + 1 + j - (k + 1) = j by omega]; rfl
      · rw [if_neg c2, if_neg (show ¬ i < k + 1 by omega)]
        by_cases c3 : i = k + l.length
        · rw [if_pos c3, if_pos (by omega), ← hch]
          obtain ⟨j, hj⟩ : ∃ j, l.length = j + 1 := ⟨l.length - 1, by omega⟩
          rw [c3, hj, show k + (j + 1) - (k + 1) = j by omega]; rfl
        · rw [if_neg c3, if_neg (by omega), f1 144 (by decide), hw.2.2 _ (by omega)]
end MRING
