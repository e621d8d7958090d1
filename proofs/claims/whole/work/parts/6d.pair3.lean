section PAIR3
variable {S : ShT} {σ : StT} {Q : Int → StT → Prop} {m dr : Nat}
theorem sp_apart {G : Geo} {a b : Nat} (hS : SHP S) (hm : isM m dr) (hok : okG G) (hE : atE σ m G) (ha : a < mcn G) (hb : b < mcn G) (hQ : Q (mds G a b) σ) : WPs mX3_apart [vR m, vI (a : Int), vI (b : Int)] S σ Q := by
  have hml := mcn_le G
  have hn := hok.1
  have hx := hok.2.2.2.1
  have hy := hok.2.2.2.2
  refine e_X3_apart hS hm ?_
  refine e_X3_xOf hS hm ⟨fun _ => ⟨⟨by omega, by omega⟩, ?_⟩, fun q => absurd q (by omega)⟩
  refine e_X3_xOf hS hm ⟨fun _ => ⟨⟨by omega, by omega⟩, ?_⟩, fun q => absurd q (by omega)⟩
  rw [tn_cast, tn_cast, hE.2.2.2.1 a ha, hE.2.2.2.1 b hb]
  have x1 := hx (fe G a)
  have x2 := hx (fe G b)
  have y1 := hy (fe G a)
  have y2 := hy (fe G b)
  refine ⟨inR_s (by omega) (by omega), inR_s (by omega) (by omega), ?_⟩
  refine e_X3_yOf hS hm ⟨fun _ => ⟨⟨by omega, by omega⟩, ?_⟩, fun q => absurd q (by omega)⟩
  refine e_X3_yOf hS hm ⟨fun _ => ⟨⟨by omega, by omega⟩, ?_⟩, fun q => absurd q (by omega)⟩
  rw [tn_cast, tn_cast, hE.2.2.2.2 a ha, hE.2.2.2.2 b hb]
  have hd := mds_in hok a b
  have e : mds G a b = iab (G.2.2.1 (fe G a) - G.2.2.1 (fe G b)) + iab (G.2.2.2 (fe G a) - G.2.2.2 (fe G b)) := rfl
  rw [e] at hd hQ
  exact ⟨inR_s (by omega) (by omega), inR_s (by omega) (by omega), inR_s (by omega) (by omega), hQ⟩
theorem sp_bestPartner {L c u a K : Nat} {s : Nat → Nat} {D : Nat → Nat → Int} (hS : SHP S) (h : LSb σ L c s) (hL14 : L ≤ 14) (hD : ∀ a b, a < L → b < L → σ 27 (a * 14 + b) = D a b) (hDi : ∀ a b, 0 ≤ D a b ∧ D a b ≤ 400) (hu : u < 16384) (hF : isF L u a) (hK : K ≤ 14) (hs : ∀ b, b ∈ pf a u L → ∃ k, 2 ≤ k ∧ k ≤ c ∧ s k = u ||| 2 ^ a ||| 2 ^ b ∧ σ 29 k = bl D K (rem (pf a u L) b)) (hne : pf a u L ≠ []) (hQ : ∀ σ' : StT, σ' 20 14 = D a (prt1 D K a (pf a u L)) + bl D K (rem (pf a u L) (prt1 D K a (pf a u L))) → fr [20] σ σ' → (∀ k, k ≠ 14 → σ' 20 k = σ 20 k) → Q (prt1 D K a (pf a u L)) σ') : WPs mX4_bestPartner [vR 20, vI (u : Int), vI (a : Int)] S σ Q := by
  have hL := h.1
  have hc6 := h.2.2.2.1
  have ha := hF.1
  generalize hv : (fun b => D a b + bl D K (rem (pf a u L) b)) = v at *
  have hvb : ∀ b, v b = D a b + bl D K (rem (pf a u L) b) := fun b => by rw [← hv]
  have hvi : ∀ b, 0 ≤ v b ∧ v b ≤ 6000 := fun b => by
    have h1 := hDi a b
    have h2 := bl_in hDi K (rem (pf a u L) b)
    rw [hvb b]; omega
  have hpr : prt1 D K a (pf a u L) = amin v (pf a u L) := by unfold prt1; rw [hv]
  rw [hpr, ← hvb] at hQ
  refine e_X4_bestPartner hS ⟨inR_s (by omega) (by omega), ?_⟩
  refine lupg (α := Int × StT) (I := fun i x => (a : Int) + 1 ≤ i ∧ i ≤ L ∧ fr [20] σ x.2 ∧ (∀ k, k ≠ 14 → x.2 20 k = σ 20 k) ∧ ((pf a u i.toNat = [] ∧ x.1 = a) ∨ (pf a u i.toNat ≠ [] ∧ x.1 = (amin v (pf a u i.toNat) : Nat) ∧ x.2 20 14 = v (amin v (pf a u i.toNat))))) (W := fun i x => AWs mX4_bestPartner 12 [(0, vR 20), (1, vI (u : Int)), (2, vI (a : Int)), (3, vI x.1), (4, vI i)] [] S x.2 Q) (L : Int) ?_ ?_ ((a : Int) + 1) ((a : Int), up2 σ 20 14 0) ?_
  · intro i ⟨x, σ1⟩ ⟨i1, i2, f1, g1, i3⟩ hge
    have e : i = (L : Int) := by omega
    subst e
    rw [tn_cast] at i3
    simp only at f1 g1 i3 ⊢
    have hL1 : σ1 20 8 = L := (g1 8 (by decide)).trans hL
    refine t_X4_bestPartner_12 hS ⟨fun _ => ?_, fun q => absurd (by rw [hL1]; exact hge) q⟩
    rcases i3 with ⟨j1, j2⟩ | ⟨j1, j2, j3⟩
    · exact absurd j1 hne
    · rw [j2]; exact hQ σ1 j3 f1 g1
  · intro i ⟨x, σ1⟩ ⟨i1, i2, f1, g1, i3⟩ hlt k
    obtain ⟨b, rfl⟩ := nat_of (show 0 ≤ i by omega)
    have hbL : b < L := by omega
    rw [tn_cast] at i3
    simp only at f1 g1 i3 ⊢
    have hL1 : σ1 20 8 = L := (g1 8 (by decide)).trans hL
    have hps := pf_s a u b
    refine t_X4_bestPartner_12 hS ⟨fun q => absurd q (by rw [hL1]; omega), fun _ => ?_⟩
    rw [iBit (by omega) (by omega)]
    cases hbb : u.testBit b
    · refine ⟨fun q => absurd rfl q, fun _ => ?_⟩
      have hbp : b ∈ pf a u L := pf_mem.mpr ⟨hbL, by omega, hbb⟩
      obtain ⟨kk, k1, k2, k3, k4⟩ := hs b hbp
      obtain ⟨m1, m2, m3, m4, m5⟩ := h.2.2.2.2.2.1 kk (by omega) k2
      have hslk := slo_lt (s kk)
      rw [if_pos ⟨by omega, hbb⟩] at hps
      have hvv := hvi b
      have hvv2 := hvb b
      have hdd := hDi a b
      have hbli := bl_in hDi K (rem (pf a u L) b)
      refine e_X4_slotOf hS ?_
      rw [next_int hu (by omega) (by omega), ← k3, slo_int (RL_lt m3), tn_cast, f1 30 (by decide), (m2 k1).1]
      refine ⟨⟨by omega, by omega⟩, ?_⟩
      intro x48 hx48
      subst hx48
      rw [tn_cast, show ((a : Int) * 14 + (b : Int)).toNat = a * 14 + b by omega, f1 27 (by decide), f1 29 (by decide), hD a b (by omega) hbL, k4, ← hvb b]
      refine ⟨inR_s (by omega) (by omega), inR_s (by omega) (by omega), ⟨by omega, by omega⟩, ⟨by omega, by omega⟩, inR_s (by omega) (by omega), ?_⟩
      intro x70 hx70
      subst hx70
      rcases i3 with ⟨j1, j2⟩ | ⟨j1, j2, j3⟩
      · refine ⟨fun _ => ⟨inR_s (by omega) (by omega), k ((b : Int), up2 σ1 20 14 (v b)) ⟨by omega, by omega, f1.put (by simp), fun q hq => (up2_i hq).trans (g1 q hq), Or.inr ?_⟩⟩, fun q => absurd j2 q⟩
        rw [show ((b : Int) + 1).toNat = b + 1 from rfl, hps, j1]
        exact ⟨by simp, rfl, up2_s σ1 20 14 (v b)⟩
      · have hmem := amin_mem v (pf a u b) j1
        have hgt := (pf_mem.mp hmem).2.1
        have hsn := amin_snoc v b (pf a u b) j1
        have hne2 : pf a u b ++ [b] ≠ [] := by simp
        rw [j2, j3]
        refine ⟨fun q => absurd q (by omega), fun _ => ⟨fun q => ⟨inR_s (by omega) (by omega), k (((amin v (pf a u b) : Nat) : Int), σ1) ⟨by omega, by omega, f1, g1, Or.inr ?_⟩⟩, fun q => ⟨inR_s (by omega) (by omega), k ((b : Int), up2 σ1 20 14 (v b)) ⟨by omega, by omega, f1.put (by simp), fun q hq => (up2_i hq).trans (g1 q hq), Or.inr ?_⟩⟩⟩⟩
        · rw [if_neg (by omega)] at hsn
          rw [show ((b : Int) + 1).toNat = b + 1 from rfl, hps, hsn]
          exact ⟨hne2, rfl, j3⟩
        · rw [if_pos (by omega)] at hsn
          rw [show ((b : Int) + 1).toNat = b + 1 from rfl, hps, hsn]
          exact ⟨hne2, rfl, up2_s σ1 20 14 (v b)⟩
    · refine ⟨fun _ => ⟨inR_s (by omega) (by omega), k (x, σ1) ⟨by omega, by omega, f1, g1, ?_⟩⟩, fun q => absurd q (by simp)⟩
      rw [show ((b : Int) + 1).toNat = b + 1 from rfl, hps, if_neg (by rw [hbb]; simp)]
      exact i3
  · refine ⟨Int.le_refl _, by omega, fr.rf.put (by simp), fun q hq => up2_i hq, Or.inl ⟨?_, rfl⟩⟩
    rw [show ((a : Int) + 1).toNat = a + 1 from rfl]
    exact List.filter_eq_nil_iff.mpr (fun x hx => by have := List.mem_range.mp hx; simp; omega)
/-- the costs from i on are told -/
def lsA (σ : StT) (L c : Nat) (s : Nat → Nat) (D : Nat → Nat → Int) (i : Nat) : Prop := ∀ j, i ≤ j → 1 ≤ j → j ≤ c → σ 29 j = bl D ((fl L (s j)).length / 2) (fl L (s j))
theorem LSb.ext {σ σ' : StT} {L c : Nat} {s : Nat → Nat} (h : LSb σ L c s) (h20 : σ' 20 8 = σ 20 8 ∧ σ' 20 11 = σ 20 11) (h28 : ∀ j, σ' 28 j = σ 28 j) (h30 : ∀ j, σ' 30 j = σ 30 j) : LSb σ' L c s := by
  unfold LSb at h ⊢
  rw [h20.1, h20.2]
  simp only [h28, h30]
  exact h
theorem full_uniq {L u w : Nat} (hu : u < 2 ^ L) (hw : w < 2 ^ L) (h1 : fl L u = []) (h2 : fl L w = []) : u = w := by
  apply Nat.eq_of_testBit_eq
  intro i
  by_cases e : i < L
  · have a1 : u.testBit i = true := by
      cases h : u.testBit i
      · have : i ∈ fl L u := fl_mem.mpr ⟨e, h⟩; rw [h1] at this; cases this
      · rfl
    have a2 : w.testBit i = true := by
      cases h : w.testBit i
      · have : i ∈ fl L w := fl_mem.mpr ⟨e, h⟩; rw [h2] at this; cases this
      · rfl
    rw [a1, a2]
  · have hp : 2 ^ L ≤ 2 ^ i := Nat.pow_le_pow_right (by decide) (by omega)
    rw [Nat.testBit_lt_two_pow (by omega), Nat.testBit_lt_two_pow (by omega)]
/-- first free of a listed set that isn't full; its others -/
theorem two_free {L u : Nat} (he : (fl L u).length % 2 = 0) (hn : fl L u ≠ []) : 2 ≤ (fl L u).length := by
  have := List.length_pos_iff.mpr hn
  omega
theorem has_first {L u : Nat} (h : 2 ≤ (fl L u).length) : ∃ a, isF L u a := by
  obtain ⟨a, h1, h2⟩ := pk_least (fun a => u.testBit a = false) (by
    obtain ⟨x, hx⟩ : ∃ x, x ∈ fl L u := List.exists_mem_of_length_pos (by omega)
    exact ⟨x, (fl_mem.mp hx).2⟩)
  have hall : ∀ x, x < a → u.testBit x = true := fun x hx => by
    cases q : u.testBit x
    · exact absurd q (h2 x hx)
    · rfl
  have hlt : a < L := by
    obtain ⟨x, hx⟩ : ∃ x, x ∈ fl L u := List.exists_mem_of_length_pos (by omega)
    obtain ⟨k1, k2⟩ := fl_mem.mp hx
    rcases Nat.lt_or_ge x a with z | z
    · rw [hall x z] at k2; cases k2
    · omega
  exact ⟨a, isF_of h hall (fun _ => h1) (Or.inr hlt)⟩
/-- the last of those listed is full -/
theorem last_full {L c : Nat} {s : Nat → Nat} (hcl : clo L c s c L) (he : (fl L (s c)).length % 2 = 0) : fl L (s c) = [] := by
  by_cases e : fl L (s c) = []
  · exact e
  · exfalso
    have h2 := two_free he e
    obtain ⟨a, hF⟩ := has_first h2
    have e1 := isF_fl hF
    have : pf a (s c) L ≠ [] := by
      intro z; rw [e1, z] at h2; simp at h2
    obtain ⟨b, hb⟩ := List.exists_mem_of_ne_nil _ this
    obtain ⟨k, k1, k2, -⟩ := hcl a b hF (pf_mem.mp hb).1 hb
    omega
theorem sp_fillLeast {L c : Nat} {s : Nat → Nat} {D : Nat → Nat → Int} (hS : SHP S) (h : LSb σ L c s) (hL14 : L ≤ 14) (hcl : ∀ j, 1 ≤ j → j ≤ c → clo L c s j L) (hD : ∀ a b, a < L → b < L → σ 27 (a * 14 + b) = D a b) (hDi : ∀ a b, 0 ≤ D a b ∧ D a b ≤ 400) (hQ : ∀ σ' : StT, lsA σ' L c s D 1 → fr [20, 29] σ σ' → (∀ k, k ≠ 14 → σ' 20 k = σ 20 k) → Q 0 σ') : WPs mX4_fillLeast [vR 20] S σ Q := by
  obtain ⟨hL, hc, c1, c2, hs1, hB, hC⟩ := id h
  have hlast := last_full (hcl c c1 (Nat.le_refl _)) (hB c c1 (Nat.le_refl _)).2.2.2.2
  have hlen : ∀ j, (fl L (s j)).length ≤ 14 := fun j => by
    have := nodup_le (l := List.range L) (fl_nodup L (s j)) (fun x hx => List.mem_range.mpr (fl_mem.mp hx).1)
    simp at this; omega
  refine e_X4_fillLeast hS ?_
  rw [hc]
  refine ⟨⟨by omega, by omega⟩, inR_s (by omega) (by omega), ?_⟩
  intro x hx
  subst hx
  refine ldn (α := StT) (I := fun i σ' => 0 ≤ i ∧ i < c ∧ lsA σ' L c s D (i.toNat + 1) ∧ fr [20, 29] σ σ' ∧ ∀ k, k ≠ 14 → σ' 20 k = σ 20 k) (W := fun i σ' => AWs mX4_fillLeast 17 [(0, vR 20), (1, vI i)] [] S σ' Q) 1 ?_ ?_ _ _ ?_
  · intro i σ1 ⟨i0, i1, i2, i3, i4⟩ hlt
    have e : i = 0 := by omega
    subst e
    exact t_X4_fillLeast_17 hS ⟨fun _ => hQ σ1 (fun j _ j1 j2 => i2 j (by show 0 + 1 ≤ j; omega) j1 j2) i3 i4, fun q => absurd hlt q⟩
  · intro i σ1 ⟨i0, i1, i2, i3, i4⟩ hge kk
    obtain ⟨n, rfl⟩ := nat_of i0
    have hn1 : 1 ≤ n := by omega
    have hnc : n < c := by omega
    rw [tn_cast] at i2
    have h' : LSb σ1 L c s := h.ext ⟨i4 8 (by decide), i4 11 (by decide)⟩ (fun j => i3 28 (by simp) j) (fun j => i3 30 (by simp) j)
    have hD' : ∀ a b, a < L → b < L → σ1 27 (a * 14 + b) = D a b := fun a b h1 h2 => by rw [i3 27 (by simp)]; exact hD a b h1 h2
    obtain ⟨b1, b2, b3, b4, b5⟩ := h'.2.2.2.2.2.1 n hn1 (by omega)
    have hne : fl L (s n) ≠ [] := by
      intro z
      have e1 := full_uniq b4 (hB c c1 (Nat.le_refl _)).2.2.2.1 z hlast
      have := h.inj hn1 (by omega) c1 (Nat.le_refl _) e1
      omega
    have h2 := two_free b5 hne
    have hult := RL_lt b3
    refine t_X4_fillLeast_17 hS ⟨fun q => absurd q (by omega), fun _ => ⟨⟨by omega, by omega⟩, ⟨by omega, by omega⟩, ?_⟩⟩
    rw [tn_cast, b1]
    refine sp_firstFree hS h'.1 hL14 hult ?_
    intro a ha1 ha2 ha3
    have hF := isF_of h2 ha1 ha2 ha3
    have e1 := isF_fl hF
    have hpn : pf a (s n) L ≠ [] := by intro z; rw [e1, z] at h2; simp at h2
    have hln := hlen n
    have hsucc : ∀ b, b ∈ pf a (s n) L → ∃ k, 2 ≤ k ∧ k ≤ c ∧ s k = s n ||| 2 ^ a ||| 2 ^ b ∧ σ1 29 k = bl D ((fl L (s n)).length / 2 - 1) (rem (pf a (s n) L) b) := by
      intro b hb
      obtain ⟨k, k1, k2, k3⟩ := hcl n hn1 (by omega) a b hF (pf_mem.mp hb).1 hb
      refine ⟨k, by omega, k2, k3, ?_⟩
      rw [i2 k (by omega) (by omega) k2, k3, ← isF_next (b := b) hF]
      have := next_len hF hb
      rw [show (fl L (s n ||| 2 ^ a ||| 2 ^ b)).length / 2 = (fl L (s n)).length / 2 - 1 by omega]
    refine sp_bestPartner hS h' hL14 hD' hDi hult hF (by omega) hsucc hpn ?_
    intro σ2 v2 f2 g2
    refine ⟨⟨by omega, by omega⟩, inR_s (by omega) (by omega), kk _ ⟨by omega, by omega, ?_, (i3.trans (f2.mono (by simp))).put (by simp), fun k hk => by rw [up2_a (by decide)]; exact (g2 k hk).trans (i4 k hk)⟩⟩
    intro j j0 j1 j2
    by_cases e : j = n
    · subst e
      rw [up2_s, v2, e1]
      have e4 : (a :: pf a (s j) L).length / 2 = ((fl L (s j)).length / 2 - 1) + 1 := by rw [← e1]; omega
      rw [e4]
      rfl
    · rw [up2_i e, f2 29 (by decide)]
      exact i2 j (by have : ((n : Int) + -1).toNat = n - 1 := by omega
                     omega) j1 j2
  · refine ⟨by omega, by omega, ?_, fr.rf.put (by simp), fun k _ => up2_a (by decide)⟩
    intro j j0 j1 j2
    have e : j = c := by have : ((c : Int) - 1).toNat = c - 1 := by omega
                         omega
    subst e
    rw [tn_cast, up2_s, hlast]
    rfl
end PAIR3
