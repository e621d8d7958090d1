section PAIR5
variable {S : ShT} {σ : StT} {Q : Int → StT → Prop}
theorem sp_clearSets {L c : Nat} {s : Nat → Nat} (hS : SHP S) (h : LSb σ L c s) (hQ : ∀ σ' : StT, (∀ u, u < 4096 → σ' 30 u = 0) → fr [30] σ σ' → Q 0 σ') : WPs mX4_clearSets [vR 20] S σ Q := by
  obtain ⟨hL, hc, c1, c2, hs1, hB, hC⟩ := h
  refine e_X4_clearSets hS ?_
  refine lup (I := fun i σ' => 1 ≤ i ∧ i ≤ c + 1 ∧ (∀ u, u < 4096 → σ' 30 u ≠ 0 → ∃ j : Nat, i ≤ j ∧ j ≤ c ∧ slo (s j) = u) ∧ fr [30] σ σ') (W := fun i σ' => AWs mX4_clearSets 2 [(0, vR 20), (1, vI i)] [] S σ' Q) ((c : Int) + 1) ?_ ?_ 1 σ ⟨by omega, by omega, fun u hu h0 => by
    obtain ⟨j, j1, j2, j3⟩ := hC u hu h0
    exact ⟨j, by omega, j2, j3⟩, fr.rf⟩
  · intro i σ1 ⟨i1, i2, i3, i4⟩ hge
    refine t_X4_clearSets_2 hS ⟨fun _ => hQ σ1 (fun u hu => ?_) i4, fun q => absurd (by rw [i4 20 (by decide) 11, hc]; omega) q⟩
    by_cases e : σ1 30 u = 0
    · exact e
    · obtain ⟨j, j1, j2, -⟩ := i3 u hu e
      omega
  · intro i σ1 ⟨i1, i2, i3, i4⟩ hlt kk
    obtain ⟨n, rfl⟩ := nat_of (show 0 ≤ i by omega)
    obtain ⟨b1, b2, b3, b4, b5⟩ := hB n (by omega) (by omega)
    have hlt2 := RL_lt b3
    have hsl := slo_lt (s n)
    refine t_X4_clearSets_2 hS ⟨fun q => absurd q (by rw [i4 20 (by decide) 11, hc]; omega), fun _ => ⟨⟨by omega, by omega⟩, ?_⟩⟩
    rw [tn_cast, i4 28 (by decide) n, b1]
    refine e_X4_slotOf hS ?_
    rw [slo_int hlt2, tn_cast]
    refine ⟨⟨by omega, by omega⟩, inR_s (by omega) (by omega), kk _ ⟨by omega, by omega, fun u hu h0 => ?_, i4.put (by simp)⟩⟩
    by_cases e : u = slo (s n)
    · subst e; rw [up2_s] at h0; exact absurd rfl h0
    · rw [up2_i e] at h0
      obtain ⟨j, j1, j2, j3⟩ := i3 u hu h0
      refine ⟨j, ?_, j2, j3⟩
      have : j ≠ n := fun q => e (by rw [← j3, q])
      omega
theorem sp_pairNeighbours {G : Geo} {p L : Nat} {P : List (Nat × Nat)} (hS : SHP S) (hok : okG G) (hE : atE σ 7 G) (hL : σ 20 8 = L) (hLo : L = ocn G p) (ho : ∀ i, i < L → σ 26 i = ol G p i) (hq : atQ σ G P) (hl : P.length + L / 2 ≤ 24) (hQ : ∀ σ' : StT, atQ σ' G (P ++ ((List.range (L / 2)).map (fun i => (2 * i, 2 * i + 1))).map (fun q => (ol G p q.1, ol G p q.2))) → fr [20, 21, 22, 23] σ σ' → (∀ k, k ≠ 6 → σ' 20 k = σ 20 k) → Q 0 σ') : WPs mX4_pairNeighbours [vR 20] S σ Q := by
  have hml := mcn_le G
  have hn := hok.1
  have hLm : L ≤ 48 := by
    have := nodup_le (l := List.range (mcn G)) (k := OL G p) (List.nodup_range.filter _) (fun x hx => (List.mem_filter.mp hx).1)
    rw [OL_len] at this; simp at this; omega
  have hev := ocn_even G p
  refine e_X4_pairNeighbours hS ?_
  have key : ∀ (r k : Nat) (σ1 : StT), r + k = L / 2 → atQ σ1 G (P ++ ((List.range k).map (fun i => (2 * i, 2 * i + 1))).map (fun q => (ol G p q.1, ol G p q.2))) → fr [20, 21, 22, 23] σ σ1 → (∀ k, k ≠ 6 → σ1 20 k = σ 20 k) → AWs mX4_pairNeighbours 2 [(0, vR 20), (1, vI ((2 * k : Nat) : Int))] [] S σ1 Q := by
    intro r
    induction r with
    | zero =>
      intro k σ1 hk h1 h2 h3
      refine t_X4_pairNeighbours_2 hS ⟨inR_s (by omega) (by omega), fun _ => hQ σ1 ?_ h2 h3, fun q => absurd (by rw [h3 8 (by decide), hL]; omega) q⟩
      rw [show L / 2 = k by omega]; exact h1
    | succ r ih =>
      intro k σ1 hk h1 h2 h3
      refine t_X4_pairNeighbours_2 hS ⟨inR_s (by omega) (by omega), fun q => absurd q (by rw [h3 8 (by decide), hL]; omega), fun _ => ⟨inR_s (by omega) (by omega), ?_⟩⟩
      have oa := ol_mem (G := G) (p := p) (i := 2 * k) (by omega)
      have ob := ol_mem (G := G) (p := p) (i := 2 * k + 1) (by omega)
      refine sp_putPair (a := 2 * k) (b := 2 * k + 1) (x := ol G p (2 * k)) (y := ol G p (2 * k + 1)) hS hok (hE.ext (fun c _ _ => h2 c (by simp; omega)) (fun c _ _ => h2 c (by simp; omega))) h1 (by simp; omega) (by omega) (by omega) (by rw [h2 26 (by decide)]; exact ho _ (by omega)) (by rw [h2 26 (by decide)]; exact ho _ (by omega)) oa.1 ob.1 ?_
      intro σ2 g1 g2 g3
      refine ⟨inR_s (by omega) (by omega), ?_⟩
      have := ih (k + 1) σ2 (by omega) (by
        rw [List.range_succ, List.map_append, List.map_append, ← List.append_assoc]; exact g1) (h2.trans g2) (fun j hj => (g3 j hj).trans (h3 j hj))
      rw [show ((2 * (k + 1) : Nat) : Int) = ((2 * k : Nat) : Int) + 2 by omega] at this
      exact this
  exact key (L / 2) 0 σ (by omega) (by simpa using hq) fr.rf (fun _ _ => rfl)
theorem sp_pairByLeast {G : Geo} {p L : Nat} {P : List (Nat × Nat)} (hS : SHP S) (hok : okG G) (hE : atE σ 7 G) (hL : σ 20 8 = L) (hL14 : L ≤ 14) (hLo : L = ocn G p) (ho : ∀ i, i < L → σ 26 i = ol G p i) (hq : atQ σ G P) (hl : P.length + L / 2 ≤ 24) (h30 : ∀ u, u < 4096 → σ 30 u = 0) (hQ : ∀ σ' : StT, atQ σ' G (P ++ (mat (oD G p) (L / 2) (List.range L)).map (fun q => (ol G p q.1, ol G p q.2))) → (∀ u, u < 4096 → σ' 30 u = 0) → fr [20, 21, 22, 23, 27, 28, 29, 30] σ σ' → (∀ k, k ≠ 6 → k ≠ 11 → k ≠ 14 → σ' 20 k = σ 20 k) → Q 0 σ') : WPs mX4_pairByLeast [vR 20] S σ Q := by
  have hev := ocn_even G p
  have hDi : ∀ a b, 0 ≤ oD G p a b ∧ oD G p a b ≤ 400 := fun a b => mds_in hok _ _
  refine e_X4_pairByLeast hS ?_
  refine sp_measureOdds hS hok hE hL hL14 hLo ho ?_
  intro σ1 hD1 f1
  refine sp_listSets hS (by rw [f1 20 (by decide) 8]; exact hL) hL14 (by omega) (fun u hu => by rw [f1 30 (by decide) u]; exact h30 u hu) ?_
  intro σ2 c s ls2 hcl hdec f2 g2
  refine sp_fillLeast hS ls2 hL14 hcl (fun a b ha hb => by rw [f2 27 (by decide)]; exact hD1 a b ha hb) hDi ?_
  intro σ3 hA3 f3 g3
  have ls3 : LSb σ3 L c s := ls2.ext ⟨g3 8 (by decide), g3 11 (by decide)⟩ (fun j => f3 28 (by decide) j) (fun j => f3 30 (by decide) j)
  have hfr3 : fr [20, 21, 22, 23, 27, 28, 29, 30] σ σ3 := ((f1.mono (by simp)).trans (f2.mono (by simp))).trans (f3.mono (by simp))
  have hq3 : atQ σ3 G P := hq.ext (by rw [g3 6 (by decide), g2 6 (by decide), f1 20 (by decide) 6]) (fun b hb1 hb2 j => by rw [f3 b (by simp; omega), f2 b (by simp; omega), f1 b (by simp; omega)])
  have hD3 : ∀ a b, a < L → b < L → σ3 27 (a * 14 + b) = oD G p a b := fun a b ha hb => by rw [f3 27 (by decide), f2 27 (by decide)]; exact hD1 a b ha hb
  have flz : fl L 0 = List.range L := by unfold fl; rw [List.filter_eq_self.mpr (fun b _ => by simp)]
  have hlenL : ∀ u, (fl L u).length ≤ 14 := fun u => by
    have := nodup_le (l := List.range L) (fl_nodup L u) (fun x hx => List.mem_range.mpr (fl_mem.mp hx).1)
    simp at this; omega
  have key : ∀ (r k j : Nat) (done : List (Nat × Nat)) (σ4 : StT), r + k = L / 2 → 1 ≤ j → j ≤ c → (fl L (s j)).length = 2 * r → done.length = k → mat (oD G p) (L / 2) (List.range L) = done ++ mat (oD G p) r (fl L (s j)) → atQ σ4 G (P ++ done.map (fun q => (ol G p q.1, ol G p q.2))) → fr [20, 21, 22, 23] σ3 σ4 → (∀ k, k ≠ 6 → k ≠ 14 → σ4 20 k = σ3 20 k) → AWs mX4_pairByLeast 16 [(0, vR 20), (1, vI ((s j : Nat) : Int)), (2, vI ((2 * k : Nat) : Int))] [] S σ4 Q := by
    intro r
    induction r with
    | zero =>
      intro k j done σ4 hk j1 j2 hln hdl hm h1 h2 h3
      have e8 : σ4 20 8 = L := by rw [h3 8 (by decide) (by decide)]; exact ls3.1
      refine t_X4_pairByLeast_16 hS ⟨inR_s (by omega) (by omega), fun _ => ?_, fun q => absurd (by rw [e8]; omega) q⟩
      refine sp_clearSets hS (ls3.ext ⟨h3 8 (by decide) (by decide), h3 11 (by decide) (by decide)⟩ (fun j => h2 28 (by decide) j) (fun j => h2 30 (by decide) j)) ?_
      intro σ5 z5 f5
      refine hQ σ5 ?_ z5 ((hfr3.trans (h2.mono (by simp))).trans (f5.mono (by simp))) (fun k k6 k11 k14 => by rw [f5 20 (by decide) k, h3 k k6 k14, g3 k k14, g2 k k11, f1 20 (by decide) k])
      have e0 : mat (oD G p) (L / 2) (List.range L) = done := by rw [hm]; simp [mat]
      rw [e0]
      exact h1.ext (f5 20 (by decide) 6) (fun b _ _ j => f5 b (by simp; omega) j)
    | succ r ih =>
      intro k j done σ4 hk j1 j2 hln hdl hm h1 h2 h3
      have e8 : σ4 20 8 = L := by rw [h3 8 (by decide) (by decide)]; exact ls3.1
      have ls4 : LSb σ4 L c s := ls3.ext ⟨h3 8 (by decide) (by decide), h3 11 (by decide) (by decide)⟩ (fun j => h2 28 (by decide) j) (fun j => h2 30 (by decide) j)
      obtain ⟨b1, b2, b3, b4, b5⟩ := ls4.2.2.2.2.2.1 j j1 j2
      have hult := RL_lt b3
      refine t_X4_pairByLeast_16 hS ⟨inR_s (by omega) (by omega), fun q => absurd q (by rw [e8]; omega), fun _ => ?_⟩
      refine sp_firstFree hS e8 hL14 hult ?_
      intro a ha1 ha2 ha3
      have hF := isF_of (by omega) ha1 ha2 ha3
      have e1 := isF_fl hF
      have hpl : (pf a (s j) L).length = 2 * r + 1 := by rw [e1] at hln; simp at hln; omega
      have hpn : pf a (s j) L ≠ [] := by intro z; rw [z] at hpl; simp at hpl
      have hlj := hlenL (s j)
      have hsucc : ∀ b, b ∈ pf a (s j) L → ∃ k, 2 ≤ k ∧ k ≤ c ∧ s k = s j ||| 2 ^ a ||| 2 ^ b ∧ σ4 29 k = bl (oD G p) r (rem (pf a (s j) L) b) := by
        intro b hb
        obtain ⟨k, k1, k2, k3⟩ := hcl j j1 j2 a b hF (pf_mem.mp hb).1 hb
        refine ⟨k, by omega, k2, k3, ?_⟩
        rw [h2 29 (by decide) k, hA3 k (by omega) (by omega) k2, k3, ← isF_next (b := b) hF]
        have := next_len hF hb
        rw [show (fl L (s j ||| 2 ^ a ||| 2 ^ b)).length / 2 = r by omega]
      refine sp_bestPartner hS ls4 hL14 (fun x y hx hy => by rw [h2 27 (by decide)]; exact hD3 x y hx hy) hDi hult hF (by omega) hsucc hpn ?_
      intro σ6 _ f6 g6
      have h1 := h1.ext (g6 6 (by decide)) (fun b _ _ q => f6 b (by simp; omega) q)
      have h2 : fr [20, 21, 22, 23] σ3 σ6 := h2.trans (f6.mono (by simp))
      have h3 : ∀ k, k ≠ 6 → k ≠ 14 → σ6 20 k = σ3 20 k := fun k k6 k14 => (g6 k k14).trans (h3 k k6 k14)
      have hpm : prt1 (oD G p) r a (pf a (s j) L) ∈ pf a (s j) L := amin_mem _ _ hpn
      generalize hb : prt1 (oD G p) r a (pf a (s j) L) = b at hpm
      have hbL := (pf_mem.mp hpm).1
      have haL : a < L := by have := hF.1; omega
      obtain ⟨k', k1, k2, k3, k4⟩ := hsucc _ hpm
      have oa := ol_mem (G := G) (p := p) (i := a) (by omega)
      have ob := ol_mem (G := G) (p := p) (i := b) (by omega)
      have hmt : mat (oD G p) (r + 1) (fl L (s j)) = (a, b) :: mat (oD G p) r (fl L (s k')) := by
        rw [k3, isF_next hF, e1]
        show (a, prt1 (oD G p) r a (pf a (s j) L)) :: _ = _
        rw [hb]
      have f26 : ∀ i, σ6 26 i = σ 26 i := fun i => by rw [h2 26 (by decide), hfr3 26 (by decide)]
      refine sp_putPair (a := a) (b := b) (x := ol G p a) (y := ol G p b) hS hok (hE.ext (fun c h h' q => by rw [h2 c (by simp; omega), hfr3 c (by simp; omega)]) (fun c h h' q => by rw [h2 c (by simp; omega), hfr3 c (by simp; omega)])) h1 (by simp; omega) (by omega) (by omega) (by rw [f26]; exact ho a haL) (by rw [f26]; exact ho b hbL) oa.1 ob.1 ?_
      intro σ5 g1 g2' g5
      intro x57 hx57
      refine ⟨inR_s (by omega) (by omega), ?_⟩
      have h14a : 2 ^ a < 2 ^ 14 := Nat.pow_lt_pow_right (by decide) (by omega)
      have h14b : 2 ^ b < 2 ^ 14 := Nat.pow_lt_pow_right (by decide) (by omega)
      have hor : 2 ^ a ||| 2 ^ b < 2 ^ 14 := Nat.or_lt_two_pow h14a h14b
      have hx : x57 = ((s k' : Nat) : Int) := by
        rw [hx57, iShl_1 a (by omega), iShl_1 b (by omega), iOr_n (by omega) (by omega), iOr_n (by omega) (by omega), k3, Nat.or_assoc]
      rw [hx]
      have hl2 := next_len hF hpm
      have := ih (k + 1) k' (done ++ [(a, b)]) σ5 (by omega) (by omega) k2 (by rw [k3]; omega) (by simp; omega) (by rw [hm, hmt]; simp) (by rw [List.map_append, ← List.append_assoc]; exact g1) (h2.trans g2') (fun q hq hq2 => (g5 q hq).trans (h3 q hq hq2))
      rw [show ((2 * (k + 1) : Nat) : Int) = ((2 * k : Nat) : Int) + 2 by omega] at this
      exact this
  have h0 := key (L / 2) 0 1 [] σ3 (by omega) (Nat.le_refl 1) ls3.2.2.1 (by rw [ls3.2.2.2.2.1, flz]; simp; omega) rfl (by rw [ls3.2.2.2.2.1, flz]; rfl) (by simpa using hq3) fr.rf (fun _ _ _ => rfl)
  rw [ls3.2.2.2.2.1] at h0
  exact h0
end PAIR5
