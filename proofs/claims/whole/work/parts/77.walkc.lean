/-! Walks: a ring, and its place in the walk -/
def kpC (σ σ' : StT) (G : Geo) (p : Nat) : Prop := ∀ q go2, q ≠ p → q < pcn G → gnC σ G q go2 → gnC σ' G q go2
theorem kpC.rf {σ : StT} {G : Geo} {p : Nat} : kpC σ σ G p := fun _ _ _ _ h => h
theorem kpC.trans {σ σ1 σ2 : StT} {G : Geo} {p : Nat} (h : kpC σ σ1 G p) (k : kpC σ1 σ2 G p) : kpC σ σ2 G p := fun q g h1 h2 h3 => k q g h1 h2 (h q g h1 h2 h3)
theorem gnC.ext {σ σ' : StT} {G : Geo} {p : Nat} {go : Nat → Bool} (h : gnC σ G p go) (h1 : ∀ j, σ' 38 j = σ 38 j) (h2 : ∀ j, σ' 39 j = σ 39 j) : gnC σ' G p go :=
  ⟨fun s a b => by rw [h1]; exact h.1 s a b, fun i a b => by rw [h2]; exact h.2 i a b⟩
theorem kpC.of {σ σ' : StT} {G : Geo} {p : Nat} (h1 : ∀ j, σ' 38 j = σ 38 j) (h2 : ∀ j, σ' 39 j = σ 39 j) : kpC σ σ' G p := fun _ _ _ _ h => h.ext h1 h2
theorem oe_pt {G : Geo} {p e m : Nat} (hp : p < pcn G) (h : eX G p e = true) : oe (gP G p) e m < mcn G ∧ pt G (oe (gP G p) e m) = p := by
  obtain ⟨a, b⟩ := eX_pt hp h
  unfold oe
  split
  · exact b
  · exact a
theorem eX_st {G : Geo} {p e : Nat} (h : eX G p e = true) (he : e < 24) : e < G.1 ∧ pt G (mt G (2 * e)) = p := by
  unfold eX at h; rw [if_pos he] at h; simpa using h
theorem eX_hp {G : Geo} {p i : Nat} (h : eX G p (24 + i) = true) : PN G p ≤ i ∧ i < PN G (p + 1) ∧ ¬ (i : Int) = cutI G p := by
  unfold eX at h; rw [if_neg (by omega), show 24 + i - 24 = i by omega] at h
  simp at h
  exact ⟨h.1.1, h.1.2, h.2⟩
theorem wcd_st {G : Geo} {m e : Nat} (he : e < 24) : wcd G (m, e) = 2 * (e : Int) ∨ wcd G (m, e) = 2 * (e : Int) + 1 := by
  by_cases h : mt G (2 * e) = m
  · exact Or.inl (wcd_a he h)
  · exact Or.inr (wcd_b he h)
theorem wcd_ne {G : Geo} {m e : Nat} : wcd G (m, e) ≠ -1 ∧ wcd G (m, e) ≠ -2 ∧ -3 - (e : Int) ≤ wcd G (m, e) ∧ wcd G (m, e) ≤ 2 * (e : Int) + 1 := by
  by_cases h : e < 24
  · rcases wcd_st (G := G) (m := m) h with q | q <;> omega
  · obtain ⟨i, rfl⟩ : ∃ i, e = 24 + i := ⟨e - 24, by omega⟩
    rw [wcd_h]; omega
section WALKC2
variable {S : ShT} {σ : StT} {Q : Int → StT → Prop}
theorem sp_goneBy {G : Geo} {p m e : Nat} {go : Nat → Bool} (hS : SHP S) (h : wC σ G) (hp : p < pcn G) (hg : gnC σ G p go) (hx : eX G p e = true) (he : e < 48) (hi : eA G e = m ∨ eB G e = m)
    (hQ : ∀ σ' : StT, gnC σ' G p (mk1 go e) → kpC σ σ' G p → fr [38, 39] σ σ' → Q (oe (gP G p) e m) σ') : WPs mX9_goneBy [vR 31, vI (wcd G (m, e)), vI (m : Int)] S σ Q := by
  have hn := h.2.1
  have hE := h.2.2.1.1
  have hmo := PN_mono G (show p + 1 ≤ pcn G by omega)
  have hb := wcd_ne (G := G) (m := m) (e := e)
  refine e_X9_goneBy hS (e_X9_isHop hS ⟨fun q => ?_, fun q => ?_⟩)
  · have he24 : e < 24 := by
      by_cases c : e < 24
      · exact c
      · obtain ⟨i, rfl⟩ : ∃ i, e = 24 + i := ⟨e - 24, by omega⟩
        rw [wcd_h] at q; omega
    obtain ⟨x1, x2⟩ := eX_st hx he24
    have post : ∀ v : Int, v = oe (gP G p) e m → Q v (up2 σ 38 e 1) := fun v hv => by
      rw [hv]
      refine hQ _ ⟨fun s a b => ?_, fun i a b => ?_⟩ (fun q g h1 h2 h3 => ⟨fun s a b => ?_, fun i a b => ?_⟩) (fr.rf.put (by simp))
      · by_cases c : s = e
        · subst c; rw [up2_s]; simp [mk1]
        · rw [up2_i c, hg.1 s a b]; simp [mk1, c]
      · rw [up2_a (by decide), hg.2 i a b]
        simp [mk1, show ¬ 24 + i = e by omega]
      · rw [up2_i (fun c => by subst c; exact h1 (b.symm.trans x2)), h3.1 s a b]
      · rw [up2_a (by decide)]; exact h3.2 i a b
    refine ⟨fun _ => ?_, fun q => absurd rfl q⟩
    have m1 : σ (7 + 1 + 1) (2 * e) = mt G (2 * e) := hE.2.1 (2 * e) (by omega)
    have m2 : σ (7 + 1 + 1) (2 * e + 1) = mt G (2 * e + 1) := hE.2.1 (2 * e + 1) (by omega)
    by_cases c : mt G (2 * e) = m
    · rw [wcd_a he24 c]
      rw [show (2 * (e : Int)) = ((2 * e : Nat) : Int) by omega, iXor_1 _ (by omega), if_pos (by omega)]
      refine ⟨by omega, ⟨by omega, by omega⟩, ?_⟩
      refine e_X3_of hS isM_a ⟨⟨by omega, by omega⟩, ?_⟩
      rw [show (((2 * e : Nat) : Int) / 2).toNat = e by omega, tn_cast, up2_a (by decide), m2]
      refine post _ ?_
      unfold oe gP eA eB
      simp only [if_pos he24, if_pos c]
    · rw [wcd_b he24 c]
      rw [show (2 * (e : Int) + 1) = ((2 * e + 1 : Nat) : Int) by omega, iXor_1 _ (by omega), if_neg (by omega)]
      refine ⟨by omega, ⟨by omega, by omega⟩, ?_⟩
      refine e_X3_of hS isM_a ⟨⟨by omega, by omega⟩, ?_⟩
      rw [show (((2 * e + 1 : Nat) : Int) / 2).toNat = e by omega, tn_cast, up2_a (by decide), show 2 * e + 1 - 1 = 2 * e by omega, m1]
      refine post _ ?_
      unfold oe gP eA eB
      simp only [if_pos he24, if_neg c]
  · have he24 : ¬ e < 24 := fun c => by
      rcases wcd_st (G := G) (m := m) c with q1 | q1 <;> omega
    obtain ⟨i, rfl⟩ : ∃ i, e = 24 + i := ⟨e - 24, by omega⟩
    obtain ⟨x1, x2, x3⟩ := eX_hp hx
    obtain ⟨p1, p2⟩ := h.pr (i := i) (by omega)
    have post : ∀ v : Int, v = oe (gP G p) (24 + i) m → Q v (up2 σ 39 i 1) := fun v hv => by
      rw [hv]
      refine hQ _ ⟨fun s a b => ?_, fun j a b => ?_⟩ (fun pz g h1 h2 h3 => ⟨fun s a b => ?_, fun j a b => ?_⟩) (fr.rf.put (by simp))
      · rw [up2_a (by decide), hg.1 s a b]; simp [mk1, show ¬ s = 24 + i by omega]
      · by_cases c : j = i
        · subst c; rw [up2_s]; simp [mk1]
        · rw [up2_i c, hg.2 j a b]; simp [mk1, c]
      · rw [up2_a (by decide)]; exact h3.1 s a b
      · rw [up2_i, h3.2 j a b]
        intro eji
        subst eji
        rcases Nat.lt_or_gt_of_ne h1 with c | c
        · have := PN_mono G (show pz + 1 ≤ p by omega); omega
        · have := PN_mono G (show p + 1 ≤ pz by omega); omega
    have eo : oe (gP G p) (24 + i) m = if (apr G i).1 = m then (apr G i).2 else (apr G i).1 := by
      unfold oe gP eA eB
      simp only [if_neg (show ¬ 24 + i < 24 by omega), show 24 + i - 24 = i by omega]
    refine ⟨fun q => by omega, fun _ => ?_⟩
    rw [wcd_h, show -3 - (-3 - (i : Int)) = (i : Int) by omega, tn_cast, p1, p2]
    refine ⟨inR_s (by omega) (by omega), ⟨by omega, by omega⟩, ⟨by omega, by omega⟩, fun c => ⟨⟨by omega, by omega⟩, post _ ?_⟩, fun c => ⟨⟨by omega, by omega⟩, post _ ?_⟩⟩
    · rw [eo, if_neg (by omega)]
    · rw [eo, if_pos (by omega)]
/-- the ring from k on -/
theorem sp_ringGo {G : Geo} {p : Nat} (hS : SHP S) (hp : p < pcn G) : ∀ (l : List Nat) (σ : StT) (go go' : Nat → Bool) (m m' k wl : Nat), wC σ G → pt G m = p → gnC σ G p go → σ 37 k = m → σ 31 7 = wl → σ 31 10 = k → wl + k + lft (gP G p) go ≤ 48 → isRing (gP G p) go m l go' m' →
    (∀ σ' : StT, gnC σ' G p go' → kpC σ σ' G p → σ' 31 10 = ((k + l.length : Nat) : Int) → (∀ j, j < l.length → σ' 36 (k + j) = wcd G ((rfr (gP G p) m l).getD j (0, 0))) → (∀ j, j < l.length → σ' 37 (k + j + 1) = (rsp (gP G p) m l).getD j 0) → (∀ j, j < k → σ' 36 j = σ 36 j) → (∀ j, j ≤ k → σ' 37 j = σ 37 j) → fr [31, 36, 37, 38, 39] σ σ' → (∀ j, j ≠ 10 → σ' 31 j = σ 31 j) → Q 0 σ') → AWs mX9_makeRing 14 [(0, vR 31), (1, vI (p : Int)), (3, vI (k : Int))] [] S σ Q
  | [], σ, go, go', m, m', k, wl, h, hmp, hg, h37, h7, h10, hl, hr, hQ => by
    have nq : Q 0 σ := hQ σ (by rw [hr.1]; exact hg) kpC.rf (by rw [h10]; simp) (fun j hj => absurd hj (by simp)) (fun j hj => absurd hj (by simp)) (fun _ _ => rfl) (fun _ _ => rfl) fr.rf (fun _ _ => rfl)
    refine t_X9_makeRing_14 hS ?_
    rw [h7, tn_cast, h37]
    refine ⟨inR_s (by omega) (by omega), fun _ => nq, fun q => ⟨⟨by omega, by omega⟩, ?_⟩⟩
    refine sp_firstWayFrom hS h hp hmp hg ?_
    rw [nxv_n hr.2.2]
    exact ⟨fun q => absurd rfl q, fun _ => nq⟩
  | e :: l, σ, go, go', m, m', k, wl, h, hmp, hg, h37, h7, h10, hl, hr, hQ => by
    obtain ⟨hr1, hr2⟩ := hr
    have hlt := lft_mk hr1
    obtain ⟨n1, n2, n3, n4⟩ := nx_ok hr1
    have n2' : eX G p e = true := n2
    refine t_X9_makeRing_14 hS ?_
    rw [h7, tn_cast, h37]
    refine ⟨inR_s (by omega) (by omega), fun q => absurd q (by omega), fun q => ⟨⟨by omega, by omega⟩, ?_⟩⟩
    refine sp_firstWayFrom hS h hp hmp hg ?_
    rw [nxv_s hr1]
    refine ⟨fun _ => ⟨⟨by omega, by omega⟩, inR_s (by omega) (by omega), ⟨by omega, by omega⟩, ?_⟩, fun q => absurd q wcd_ne.1⟩
    rw [h37]
    have f1 : fr [31, 36, 37, 38, 39] σ (up2 σ 36 k (wcd G (m, e))) := fr.rf.put (by simp)
    refine sp_goneBy (go := go) hS (h.ext (lo := 31) (hi := 40) (f1.R (by simp)) (by omega)) hp (hg.ext (fun j => up2_a (by decide)) (fun j => up2_a (by decide))) n2' n1 n4 ?_
    intro σ1 g1 k1 f2
    have e37 : ∀ j, σ1 37 j = σ 37 j := fun j => by rw [f2 37 (by decide), up2_a (by decide)]
    have e36 : ∀ j, j ≠ k → σ1 36 j = σ 36 j := fun j hj => by rw [f2 36 (by decide), up2_i hj]
    have e36k : σ1 36 k = wcd G (m, e) := by rw [f2 36 (by decide), up2_s]
    have e31 : ∀ j, σ1 31 j = σ 31 j := fun j => by rw [f2 31 (by decide), up2_a (by decide)]
    refine ⟨⟨by omega, by omega⟩, inR_s (by omega) (by omega), inR_s (by omega) (by omega), ?_⟩
    rw [show ((k : Int) + 1).toNat = k + 1 from rfl]
    have f3 : fr [31, 36, 37, 38, 39] σ (up2 (up2 σ1 37 (k + 1) (oe (gP G p) e m : Int)) 31 10 ((k : Int) + 1)) := ((f1.trans (f2.mono (by simp))).put (by simp)).put (by simp)
    have kp3 : kpC σ (up2 (up2 σ1 37 (k + 1) (oe (gP G p) e m : Int)) 31 10 ((k : Int) + 1)) G p := (kpC.of (fun j => up2_a (by decide)) (fun j => up2_a (by decide))).trans (k1.trans (kpC.of (fun j => by rw [up2_a (by decide), up2_a (by decide)]) (fun j => by rw [up2_a (by decide), up2_a (by decide)])))
    refine sp_ringGo hS hp l _ (mk1 go e) go' (oe (gP G p) e m) m' (k + 1) wl (h.ext (lo := 31) (hi := 40) (f3.R (by simp)) (by omega)) (oe_pt hp n2').2 (g1.ext (fun j => by rw [up2_a (by decide), up2_a (by decide)]) (fun j => by rw [up2_a (by decide), up2_a (by decide)])) (by rw [up2_a (by decide), up2_s]) (by rw [up2_i (by decide), up2_a (by decide), e31]; exact h7) (by rw [up2_s]; rfl) (by omega) hr2 ?_
    intro σ2 g2 k2 a10 a36 a37 b36 b37 f4 b31
    refine hQ σ2 g2 (kp3.trans k2) (by rw [a10]; show _ = ((k + (l.length + 1) : Nat) : Int); omega) (fun j hj => ?_) (fun j hj => ?_) (fun j hj => ?_) (fun j hj => ?_) (f3.trans f4) (fun j hj => ?_)
    · cases j with
      | zero => rw [Nat.add_zero, b36 k (by omega), up2_a (by decide), up2_a (by decide), e36k]; rfl
      | succ j => rw [show k + (j + 1) = k + 1 + j by omega, a36 j (by simpa using hj)]; rfl
    · cases j with
      | zero => rw [Nat.add_zero, b37 (k + 1) (by omega), up2_a (by decide), up2_s]; rfl
      | succ j => rw [show k + (j + 1) + 1 = k + 1 + j + 1 by omega, a37 j (by simpa using hj)]; rfl
    · rw [b36 j (by omega), up2_a (by decide), up2_a (by decide), e36 j (by omega)]
    · rw [b37 j (by omega), up2_a (by decide), up2_i (by omega), e37]
    · rw [b31 j hj, up2_i hj, up2_a (by decide), e31]
theorem sp_putRing {k wl rl : Nat} (hS : SHP S) (h7 : σ 31 7 = wl) (h10 : σ 31 10 = rl) (hk : k ≤ wl) (hl : wl + rl ≤ 48)
    (hQ : ∀ σ' : StT, σ' 31 7 = ((wl + rl : Nat) : Int) → (∀ i, i < wl + rl → σ' 34 i = if i < k then σ 34 i else if i < k + rl then σ 36 (i - k) else σ 34 (i - rl)) → (∀ i, i ≤ wl + rl → σ' 35 i = if i < k + 1 then σ 35 i else if i < k + 1 + rl then σ 37 (i - k) else σ 35 (i - rl)) → fr [31, 34, 35] σ σ' → (∀ j, j ≠ 7 → σ' 31 j = σ 31 j) → Q 0 σ') : WPs mX9_putRing [vR 31, vI (k : Int)] S σ Q := by
  refine e_X9_putRing hS ⟨by rw [h7]; exact inR_s (by omega) (by omega), ?_⟩
  rw [h7]
  refine ldn (I := fun v σ' => (k : Int) - 1 ≤ v ∧ v < wl ∧ (∀ i : Nat, (i : Int) ≤ v + rl → σ' 34 i = σ 34 i) ∧ (∀ i : Nat, v < i → i < wl → σ' 34 (i + rl) = σ 34 i) ∧ (∀ i : Nat, (i : Int) ≤ v + 1 + rl → σ' 35 i = σ 35 i) ∧ (∀ i : Nat, v < i → i < wl → σ' 35 (i + 1 + rl) = σ 35 (i + 1)) ∧ fr [34, 35] σ σ') (W := fun v σ' => AWs mX9_putRing 7 [(0, vR 31), (1, vI (k : Int)), (2, vI v)] [] S σ' Q) (k : Int) ?_ ?_ ((wl : Int) - 1) σ ⟨by omega, by omega, fun _ _ => rfl, fun i a b => by omega, fun _ _ => rfl, fun i a b => by omega, fr.rf⟩
  · rintro v σ1 ⟨i0, i00, i1, i2, i3, i4, i5⟩ hv
    refine t_X9_putRing_7 hS ⟨fun _ => ?_, fun q => absurd hv q⟩
    have ev : v = (k : Int) - 1 := by omega
    subst ev
    refine lup (I := fun v σ' => 0 ≤ v ∧ v ≤ rl ∧ (∀ i : Nat, (i : Int) < v → σ' 34 (k + i) = σ 36 i) ∧ (∀ i : Nat, (i < k ∨ (k : Int) + v ≤ i) → σ' 34 i = σ1 34 i) ∧ (∀ i : Nat, (i : Int) < v → σ' 35 (k + i + 1) = σ 37 (i + 1)) ∧ (∀ i : Nat, (i < k + 1 ∨ (k : Int) + 1 + v ≤ i) → σ' 35 i = σ1 35 i) ∧ fr [34, 35] σ σ') (W := fun v σ' => AWs mX9_putRing 58 [(0, vR 31), (1, vI (k : Int)), (2, vI v)] [] S σ' Q) (rl : Int) ?_ ?_ 0 σ1 ⟨by omega, by omega, fun i a => by omega, fun _ _ => rfl, fun i a => by omega, fun _ _ => rfl, i5⟩
    · rintro w σ2 ⟨j0, j00, j1, j2, j3, j4, j5⟩ hw
      have ew : w = (rl : Int) := by omega
      subst ew
      refine t_X9_putRing_58 hS ?_
      rw [j5 31 (by decide), j5 31 (by decide), h7, h10]
      refine ⟨fun _ => ⟨inR_s (by omega) (by omega), hQ _ (by rw [up2_s]; omega) (fun i hi => ?_) (fun i hi => ?_) ((j5.mono (by simp)).put (by simp)) (fun j hj => by rw [up2_i hj, j5 31 (by decide)])⟩, fun q => absurd hw q⟩
      · rw [up2_a (by decide)]
        by_cases c : i < k
        · rw [if_pos c, j2 i (Or.inl c), i1 i (by omega)]
        · rw [if_neg c]
          by_cases c2 : i < k + rl
          · rw [if_pos c2]
            have := j1 (i - k) (by omega)
            rw [show k + (i - k) = i by omega] at this
            exact this
          · rw [if_neg c2, j2 i (Or.inr (by omega))]
            have := i2 (i - rl) (by omega) (by omega)
            rw [show i - rl + rl = i by omega] at this
            exact this
      · rw [up2_a (by decide)]
        by_cases c : i < k + 1
        · rw [if_pos c, j4 i (Or.inl c), i3 i (by omega)]
        · rw [if_neg c]
          by_cases c2 : i < k + 1 + rl
          · rw [if_pos c2]
            have := j3 (i - k - 1) (by omega)
            rw [show k + (i - k - 1) + 1 = i by omega, show i - k - 1 + 1 = i - k by omega] at this
            exact this
          · rw [if_neg c2, j4 i (Or.inr (by omega))]
            have := i4 (i - rl - 1) (by omega) (by omega)
            rw [show i - rl - 1 + 1 + rl = i by omega, show i - rl - 1 + 1 = i - rl by omega] at this
            exact this
    · rintro w σ2 ⟨j0, j00, j1, j2, j3, j4, j5⟩ hw kk
      obtain ⟨t, rfl⟩ := nat_of j0
      refine t_X9_putRing_58 hS ?_
      rw [j5 31 (by decide), h10]
      refine ⟨fun q => absurd q (by omega), fun _ => ⟨inR_s (by omega) (by omega), ⟨by omega, by omega⟩, ⟨by omega, by omega⟩, inR_s (by omega) (by omega), inR_s (by omega) (by omega), inR_s (by omega) (by omega), ⟨by omega, by omega⟩, ⟨by omega, by omega⟩, inR_s (by omega) (by omega), kk _ ⟨by omega, by omega, fun i a => ?_, fun i a => ?_, fun i a => ?_, fun i a => ?_, (j5.put (by simp)).put (by simp)⟩⟩⟩
      · rw [show ((k : Int) + (t : Int)).toNat = k + t by omega, tn_cast, up2_a (by decide)]
        by_cases c : i = t
        · subst c; rw [up2_s, j5 36 (by decide)]
        · rw [up2_i (by omega), j1 i (by omega)]
      · rw [show ((k : Int) + (t : Int)).toNat = k + t by omega, up2_a (by decide), up2_i (by omega)]
        exact j2 i (by omega)
      · rw [show ((k : Int) + (t : Int) + 1).toNat = k + t + 1 by omega, show ((t : Int) + 1).toNat = t + 1 by omega]
        by_cases c : i = t
        · subst c; rw [up2_s, j5 37 (by decide)]
        · rw [up2_i (by omega), up2_a (by decide), j3 i (by omega)]
      · rw [show ((k : Int) + (t : Int) + 1).toNat = k + t + 1 by omega, up2_i (by omega), up2_a (by decide)]
        exact j4 i (by omega)
  · rintro v σ1 ⟨i0, i00, i1, i2, i3, i4, i5⟩ hv kk
    obtain ⟨t, rfl⟩ := nat_of (show 0 ≤ v by omega)
    refine t_X9_putRing_7 hS ?_
    rw [i5 31 (by decide), h10]
    refine ⟨fun q => absurd q (by omega), fun _ => ⟨inR_s (by omega) (by omega), ⟨by omega, by omega⟩, ⟨by omega, by omega⟩, inR_s (by omega) (by omega), inR_s (by omega) (by omega), inR_s (by omega) (by omega), ⟨by omega, by omega⟩, ⟨by omega, by omega⟩, inR_s (by omega) (by omega), kk _ ⟨by omega, by omega, fun i a => ?_, fun i a b => ?_, fun i a => ?_, fun i a b => ?_, (i5.put (by simp)).put (by simp)⟩⟩⟩
    · rw [show ((t : Int) + (rl : Int)).toNat = t + rl by omega, up2_a (by decide), up2_i (by omega)]
      exact i1 i (by omega)
    · rw [show ((t : Int) + (rl : Int)).toNat = t + rl by omega, up2_a (by decide), tn_cast]
      by_cases c : i = t
      · subst c; rw [up2_s]; exact i1 i (by omega)
      · rw [up2_i (by omega)]; exact i2 i (by omega) b
    · rw [show ((t : Int) + 1 + (rl : Int)).toNat = t + 1 + rl by omega, up2_i (by omega), up2_a (by decide)]
      exact i3 i (by omega)
    · rw [show ((t : Int) + 1 + (rl : Int)).toNat = t + 1 + rl by omega, show ((t : Int) + 1).toNat = t + 1 by omega]
      by_cases c : i = t
      · subst c; rw [up2_s]; exact i3 (i + 1) (by omega)
      · rw [up2_i (by omega), up2_a (by decide)]; exact i4 i (by omega) b
end WALKC2
