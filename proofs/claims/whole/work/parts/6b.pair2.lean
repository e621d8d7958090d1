section PAIR2
variable {S : ShT} {σ : StT} {Q : Int → StT → Prop}
theorem clo_mono {L c : Nat} {s s' : Nat → Nat} {j B : Nat} (h : clo L c s j B) (hj : j ≤ c) (he : ∀ k, k ≤ c → s' k = s k) : clo L (c + 1) s' j B := by
  intro a b h1 h2 h3
  rw [he j hj] at h1 h3 ⊢
  obtain ⟨k, k1, k2, k3⟩ := h a b h1 h2 h3
  exact ⟨k, k1, by omega, by rw [he k k2]; exact k3⟩
theorem sp_listSets {L : Nat} (hS : SHP S) (hL : σ 20 8 = L) (hL14 : L ≤ 14) (hev : L % 2 = 0) (h30 : ∀ u, u < 4096 → σ 30 u = 0) (hQ : ∀ (σ' : StT) (c : Nat) (s : Nat → Nat), LSb σ' L c s → (∀ j, 1 ≤ j → j ≤ c → clo L c s j L) → dec L c s → fr [20, 28, 30] σ σ' → (∀ k, k ≠ 11 → σ' 20 k = σ 20 k) → Q 0 σ') : WPs mX4_listSets [vR 20] S σ Q := by
  have flz : (fl L 0).length = L := by unfold fl; rw [List.filter_eq_self.mpr (fun b _ => by simp)]; simp
  refine e_X4_listSets hS ?_
  -- the outer loop
  refine lup (I := fun i σ' => 1 ≤ i ∧ fr [20, 28, 30] σ σ' ∧ (∀ k, k ≠ 11 → σ' 20 k = σ 20 k) ∧ ∃ (c : Nat) (s : Nat → Nat), LSb σ' L c s ∧ i ≤ c + 1 ∧ dec L c s ∧ (∀ j : Nat, 1 ≤ j → j ≤ c → (j : Int) < i → clo L c s j L) ∧ ∀ j : Nat, 1 ≤ j → j ≤ c → i ≤ c → (fl L (s i.toNat)).length ≤ (fl L (s j)).length + 2) (W := fun i σ' => AWs mX4_listSets 14 [(0, vR 20), (1, vI i)] [] S σ' Q) 611 ?_ ?_ 1 _ ?_
  · intro i σ1 ⟨i1, hfr, hk, c, s, hls, hic, hdec, hclo, hE⟩ h
    have hc := hls.2.1
    have hc6 := hls.2.2.2.1
    exact t_X4_listSets_14 hS ⟨fun _ => hQ σ1 c s hls (fun j j1 j2 => hclo j j1 j2 (by omega)) hdec hfr hk, fun q => absurd (by rw [hc]; omega) q⟩
  · intro i σ1 ⟨i1, hfr, hk, c, s, hls, hic, hdec, hclo, hE⟩ h kk
    have hc := hls.2.1
    obtain ⟨n, rfl⟩ := nat_of (show 0 ≤ i by omega)
    refine t_X4_listSets_14 hS ⟨fun q => hQ σ1 c s hls (fun j j1 j2 => hclo j j1 j2 (by rw [hc] at q; omega)) hdec hfr hk, fun q => ⟨fun q2 => absurd q2 (by omega), fun _ => ⟨⟨by omega, by omega⟩, ?_⟩⟩⟩
    rw [hc] at q
    have hn1 : 1 ≤ n := by omega
    have hnc : n ≤ c := by omega
    intro x35 hx35
    rw [tn_cast] at hE hx35
    obtain ⟨b1, b2, b3, b4, b5⟩ := hls.2.2.2.2.2.1 n hn1 hnc
    rw [b1] at hx35
    subst hx35
    have hult := RL_lt b3
    refine sp_firstFree hS hls.1 hL14 hult ?_
    intro a ha1 ha2 ha3
    refine ⟨inR_s (by omega) (by omega), ?_⟩
    generalize hu : s n = u at *
    have hF : ∀ b, b < L → u.testBit b = false → isF L u a := fun b hb hbb => by
      refine isF_of ?_ ha1 ha2 ha3
      have : b ∈ fl L u := fl_mem.mpr ⟨hb, hbb⟩
      have := List.length_pos_of_mem this
      omega
    refine lup (I := fun b σ' => (a : Int) + 1 ≤ b ∧ fr [20, 28, 30] σ σ' ∧ (∀ k, k ≠ 11 → σ' 20 k = σ 20 k) ∧ ∃ (c : Nat) (s : Nat → Nat), LSb σ' L c s ∧ n ≤ c ∧ s n = u ∧ dec L c s ∧ (∀ j : Nat, 1 ≤ j → j ≤ c → j < n → clo L c s j L) ∧ (∀ j : Nat, 1 ≤ j → j ≤ c → (fl L u).length ≤ (fl L (s j)).length + 2) ∧ clo L c s n b.toNat) (W := fun b σ' => AWs mX4_listSets 47 [(0, vR 20), (1, vI (n : Int)), (2, vI (u : Int)), (3, vI (a : Int)), (4, vI b)] [] S σ' Q) (L : Int) ?_ ?_ _ σ1 ?_
    · intro b σ2 ⟨hb, hfr2, hk2, c2, s2, hls2, hnc2, hsn, hdec2, hclo2, hE2, hcn⟩ hge
      have hL2 := hls2.1
      refine t_X4_listSets_47 hS ⟨fun _ => ⟨inR_s (by omega) (by omega), kk σ2 ⟨by omega, hfr2, hk2, c2, s2, hls2, by omega, hdec2, fun j j1 j2 j3 => ?_, fun j j1 j2 j3 => ?_⟩⟩, fun q => absurd (by rw [hL2]; exact hge) q⟩
      · by_cases e : j = n
        · subst e
          intro a' b' h1 h2 h3
          exact hcn a' b' h1 (by have := (pf_mem.mp h3).1; omega) h3
        · exact hclo2 j j1 j2 (by omega)
      · rw [show ((n : Int) + 1).toNat = n + 1 from rfl]
        have h1 := hdec2 n (n + 1) hn1 (by omega) (by omega)
        have h2 := hE2 j j1 j2
        rw [hsn] at h1
        omega
    · intro b σ2 ⟨hb, hfr2, hk2, c2, s2, hls2, hnc2, hsn, hdec2, hclo2, hE2, hcn⟩ hltb k2
      have hL2 := hls2.1
      obtain ⟨b, rfl⟩ := nat_of (show 0 ≤ b by omega)
      have hbL : b < L := by omega
      refine t_X4_listSets_47 hS ⟨fun q => absurd q (by rw [hL2]; omega), fun _ => ?_⟩
      rw [iBit (by omega) (by omega)]
      cases hbb : u.testBit b
      · refine ⟨fun q => absurd rfl q, fun _ => ?_⟩
        have hf := hF b hbL hbb
        have hbp : b ∈ pf a u L := pf_mem.mpr ⟨hbL, by omega, hbb⟩
        have hlen := next_len hf hbp
        rw [next_int hult (by have := hf.1; omega) (by omega)]
        have hclo_b : ∀ (c' : Nat) (s' : Nat → Nat), s' n = u → clo L c' s' n b → (∃ k, n < k ∧ k ≤ c' ∧ s' k = u ||| 2 ^ a ||| 2 ^ b) → clo L c' s' n (b + 1) := by
          intro c' s' hs' hcl hex a' b' h1 h2 h3
          rw [hs'] at h1 h3
          by_cases e : b' = b
          · subst e
            have ea : a' = a := by
              rcases Nat.lt_trichotomy a a' with z | z | z
              · have := h1.2.2 a z; rw [hf.2.1] at this; cases this
              · exact z.symm
              · have := hf.2.2 a' z; rw [h1.2.1] at this; cases this
            subst ea
            rw [hs']; exact hex
          · exact hcl a' b' (by rw [hs']; exact h1) (by omega) (by rw [hs']; exact h3)
        refine sp_putSet hS hls2 (RL_next b3 (by omega) (by omega) hf.2.1 hf.2.2 hbb) (fun z => by
          have z2 := bit_set u a b a
          rw [z] at z2
          simp at z2) (or_lt b4 (by have := hf.1; omega) hbL) (by omega) ?_ ?_
        · intro j j1 j2 j3
          refine ⟨inR_s (by omega) (by omega), k2 σ2 ⟨by omega, hfr2, hk2, c2, s2, hls2, hnc2, hsn, hdec2, hclo2, hE2, hclo_b c2 s2 hsn hcn ⟨j, ?_, j2, j3⟩⟩⟩
          rcases Nat.lt_or_ge n j with z | z
          · exact z
          · have := hdec2 j n j1 z hnc2
            rw [hsn, j3] at this
            omega
        · intro σ3 hls3 hfr3 hk3
          have hext : ∀ k, k ≤ c2 → (if k = c2 + 1 then u ||| 2 ^ a ||| 2 ^ b else s2 k) = s2 k := fun k hk => if_neg (by omega)
          refine ⟨inR_s (by omega) (by omega), k2 σ3 ⟨by omega, hfr2.trans hfr3, ?_, c2 + 1, _, hls3, by omega, (hext n hnc2).trans hsn, ?_, ?_, ?_, ?_⟩⟩
          · intro k hk; rw [hk3 k hk]; exact hk2 k hk
          · intro j k j1 jk kc
            show (fl L (if k = c2 + 1 then u ||| 2 ^ a ||| 2 ^ b else s2 k)).length ≤ (fl L (if j = c2 + 1 then u ||| 2 ^ a ||| 2 ^ b else s2 j)).length
            by_cases e : k = c2 + 1
            · by_cases e2 : j = c2 + 1
              · rw [if_pos e, if_pos e2]; exact Nat.le_refl _
              · rw [if_pos e, if_neg e2]
                have := hE2 j j1 (by omega)
                omega
            · rw [if_neg e, if_neg (by omega)]; exact hdec2 j k j1 jk (by omega)
          · intro j j1 j2 j3
            exact clo_mono (hclo2 j j1 (by omega) j3) (by omega) hext
          · intro j j1 j2
            show _ ≤ (fl L (if j = c2 + 1 then u ||| 2 ^ a ||| 2 ^ b else s2 j)).length + 2
            by_cases e2 : j = c2 + 1
            · rw [if_pos e2]; omega
            · rw [if_neg e2]; exact hE2 j j1 (by omega)
          · exact hclo_b (c2 + 1) _ ((hext n hnc2).trans hsn) (clo_mono hcn hnc2 hext) ⟨c2 + 1, by omega, Nat.le_refl _, if_pos rfl⟩
      · refine ⟨fun _ => ⟨inR_s (by omega) (by omega), k2 σ2 ⟨by omega, hfr2, hk2, c2, s2, hls2, hnc2, hsn, hdec2, hclo2, hE2, ?_⟩⟩, fun q => absurd q (by simp)⟩
        intro a' b' h1 h2 h3
        refine hcn a' b' h1 ?_ h3
        by_cases e : b' = b
        · subst e
          have := (pf_mem.mp h3).2.2
          rw [hsn, hbb] at this; cases this
        · have : b' < b + 1 := h2
          rw [tn_cast]; omega
    · refine ⟨Int.le_refl _, hfr, hk, c, s, hls, hnc, hu, hdec, fun j j1 j2 j3 => hclo j j1 j2 (by omega), fun j j1 j2 => hE j j1 j2 (by omega), ?_⟩
      intro a' b' h1 h2 h3
      exfalso
      rw [hu] at h1 h3
      have h4 := (pf_mem.mp h3).2.1
      have h5 : b' < a + 1 := h2
      rcases Nat.lt_or_ge a' a with z | z
      · have := ha1 a' z; rw [h1.2.1] at this; cases this
      · omega
  · refine ⟨by omega, ((fr.rf.put (by simp)).put (by simp)), fun k hk => ?_, 1, fun _ => 0, ⟨?_, ?_, by omega, by omega, rfl, ?_, ?_⟩, by omega, fun j k _ _ _ => Nat.le_refl _, fun j j1 j2 j3 => by omega, fun j _ _ _ => by show (fl L 0).length ≤ (fl L 0).length + 2; omega⟩
    · rw [up2_i hk, up2_a (by decide)]
    · rw [up2_i (by decide), up2_a (by decide)]; exact hL
    · rw [up2_s]; rfl
    · intro j j1 j2
      have : j = 1 := by omega
      subst this
      refine ⟨by rw [up2_a (by decide), up2_s]; rfl, fun z => by omega, RL_0, Nat.two_pow_pos L, by rw [flz]; exact hev⟩
    · intro u hu hu0
      rw [up2_a (by decide), up2_a (by decide), h30 u hu] at hu0
      exact absurd rfl hu0
end PAIR2
