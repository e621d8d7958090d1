/-! Groups -/
section GROUPS
variable {S : ShT} {σ : StT} {g : Nat} {Q : Int → StT → Prop}
theorem sp_begin {n : Nat} (hS : SHP S) (hg : isG g) (hn : n ≤ 48) (hQ : ∀ σ' : StT, σ' g 4 = n → (∀ i, i < n → σ' (g + 3) i = (i : Int)) → σ' g 2 = σ g 2 → fr [g, g + 3] σ σ' → Q 0 σ') : WPs mX1_begin [vR g, vI (n : Int)] S σ Q := by
  refine e_X1_begin hS hg ?_
  have e : min (n : Int) 48 = n := by omega
  rw [e]
  refine lup (I := fun i σ' => 0 ≤ i ∧ i ≤ n ∧ σ' g 4 = n ∧ (∀ j : Nat, (j : Int) < i → σ' (g + 3) j = j) ∧ σ' g 2 = σ g 2 ∧ fr [g, g + 3] σ σ') (W := fun i σ' => AWs mX1_begin 12 [(0, vR g), (2, vI i)] [] S σ' Q) n ?_ ?_ 0 _ ?_
  · intro i σ' ⟨h1, h2, h3, h4, h5, h6⟩ h
    refine t_X1_begin_12 hS hg ⟨fun _ => hQ σ' h3 (fun j hj => h4 j (by omega)) h5 h6, fun q => absurd (by rw [h3]; exact h) q⟩
  · intro i σ' ⟨h1, h2, h3, h4, h5, h6⟩ h k
    refine t_X1_begin_12 hS hg ⟨fun q => absurd q (by rw [h3]; omega), fun _ => ⟨⟨by omega, by omega⟩, inR_s (by omega) (by omega), k _ ⟨by omega, by omega, ?_, ?_, ?_, ?_⟩⟩⟩
    · rw [up2_a (by omega)]; exact h3
    · intro j hj
      by_cases e : j = i.toNat
      · subst e; rw [up2_s]; omega
      · rw [up2_i e]; exact h4 j (by omega)
    · rw [up2_a (by omega)]; exact h5
    · exact h6.put (by simp)
  · refine ⟨by omega, by omega, up2_s _ _ _ _, fun j hj => by omega, up2_i (by decide), fr.rf.put (by simp)⟩
/-- two labels made one -/
def tieF (f : Nat → Nat) (a b i : Nat) : Nat := if f i = max (f a) (f b) then min (f a) (f b) else f i
theorem sp_tie {N a b : Nat} {f : Nat → Nat} (hS : SHP S) (hg : isG g) (hN : σ g 4 = N) (hN48 : N ≤ 48) (ha : a < N) (hb : b < N) (hf : ∀ i, i < N → σ (g + 3) i = f i ∧ f i ≤ i) (hQ : ∀ σ' : StT, (∀ i, i < N → σ' (g + 3) i = tieF f a b i) → fr [g + 3] σ σ' → Q 0 σ') : WPs mX1_tie [vR g, vI (a : Int), vI (b : Int)] S σ Q := by
  obtain ⟨ea, la⟩ := hf a ha
  obtain ⟨eb, lb⟩ := hf b hb
  refine e_X1_tie hS hg ⟨⟨by omega, by omega⟩, ⟨by omega, by omega⟩, ?_⟩
  intro x15 hx15
  refine ⟨⟨by omega, by omega⟩, ⟨by omega, by omega⟩, ?_⟩
  intro x31 hx31
  rw [tn_cast, tn_cast, ea, eb] at hx15 hx31
  have e15 : x15 = ((min (f a) (f b) : Nat) : Int) := by omega
  have e31 : x31 = ((max (f a) (f b) : Nat) : Int) := by omega
  generalize hlo : min (f a) (f b) = lo at e15
  generalize hhi : max (f a) (f b) = hi at e31
  subst e15; subst e31
  refine ⟨fun hne => ?_, fun he => ?_⟩
  · refine lup (I := fun i σ' => (hi : Int) ≤ i ∧ (∀ j, j < N → σ' (g + 3) j = if (j : Int) < i then (tieF f a b j : Int) else (f j : Int)) ∧ fr [g + 3] σ σ') (W := fun i σ' => AWs mX1_tie 44 [(0, vR g), (3, vI (lo : Int)), (4, vI (hi : Int)), (5, vI i)] [] S σ' Q) N ?_ ?_ hi σ ?_
    · intro i σ' ⟨h1, h2, h3⟩ h
      have hm : σ' g 4 = N := by rw [h3 g (by simp) 4]; exact hN
      refine t_X1_tie_44 hS hg ⟨fun _ => hQ σ' (fun j hj => by rw [h2 j hj, if_pos (by omega)]) h3, fun q => absurd (by rw [hm]; exact h) q⟩
    · intro i σ' ⟨h1, h2, h3⟩ h k
      have hm : σ' g 4 = N := by rw [h3 g (by simp) 4]; exact hN
      obtain ⟨n, rfl⟩ := nat_of (show 0 ≤ i by omega)
      have hn : n < N := by omega
      have hv : σ' (g + 3) n = f n := by rw [h2 n hn, if_neg (by omega)]
      refine t_X1_tie_44 hS hg ⟨fun q => absurd q (by rw [hm]; omega), fun _ => ⟨⟨by omega, by omega⟩, ?_⟩⟩
      rw [tn_cast, hv]
      refine ⟨fun q => ⟨inR_s (by omega) (by omega), k _ ⟨by omega, ?_, h3⟩⟩, fun q => ⟨⟨by omega, by omega⟩, inR_s (by omega) (by omega), k _ ⟨by omega, ?_, h3.put (by simp)⟩⟩⟩
      · intro j hj
        rw [h2 j hj]
        by_cases e : j = n
        · subst e
          rw [if_neg (by omega), if_pos (by omega)]
          unfold tieF
          rw [hhi, if_neg (by omega)]
        · by_cases e2 : (j : Int) < n
          · rw [if_pos e2, if_pos (by omega)]
          · rw [if_neg e2, if_neg (by omega)]
      · intro j hj
        by_cases e : j = n
        · subst e
          rw [up2_s, if_pos (by omega)]
          unfold tieF
          rw [hhi, hlo, if_pos (by omega)]
        · rw [up2_i e, h2 j hj]
          by_cases e2 : (j : Int) < n
          · rw [if_pos e2, if_pos (by omega)]
          · rw [if_neg e2, if_neg (by omega)]
    · refine ⟨Int.le_refl _, fun j hj => ?_, fr.rf⟩
      rw [(hf j hj).1]
      by_cases e : (j : Int) < hi
      · rw [if_pos e]
        unfold tieF
        have := (hf j hj).2
        rw [hhi, if_neg (by omega)]
      · rw [if_neg e]
  · refine hQ σ (fun i hi => ?_) fr.rf
    rw [(hf i hi).1]
    unfold tieF
    rw [hhi, hlo]
    split <;> omega
theorem sp_numberAll {N : Nat} {f : Nat → Nat} (hS : SHP S) (hg : isG g) (hN : σ g 4 = N) (hN48 : N ≤ 48) (hf : ∀ i, i < N → σ (g + 3) i = f i ∧ f i ≤ i ∧ f (f i) = f i) (hQ : ∀ σ' : StT, σ' g 2 = rk f N → (∀ j, j < N → σ' (g + 1) j = rk f (f j)) → (∀ m, m < rk f N → σ' (g + 2) m = nth f N m) → σ' g 4 = N → fr [g, g + 1, g + 2] σ σ' → Q 0 σ') : WPs mX1_numberAll [vR g] S σ Q := by
  refine e_X1_numberAll hS hg ?_
  refine lup (I := fun i σ' => 0 ≤ i ∧ i ≤ N ∧ σ' g 2 = rk f i.toNat ∧ σ' g 4 = N ∧ (∀ j : Nat, (j : Int) < i → σ' (g + 1) j = rk f (f j)) ∧ (∀ j : Nat, (j : Int) < i → f j = j → σ' (g + 2) (rk f j) = j) ∧ fr [g, g + 1, g + 2] σ σ') (W := fun i σ' => AWs mX1_numberAll 7 [(0, vR g), (1, vI i)] [] S σ' Q) N ?_ ?_ 0 _ ?_
  · intro i σ' ⟨h1, h2, h3, h4, h5, h6, h7⟩ h
    have e : i = N := by omega
    subst e
    refine t_X1_numberAll_7 hS hg ⟨fun _ => hQ σ' h3 (fun j hj => h5 j (by omega)) (fun m hm => ?_) h4 h7, fun q => absurd (by rw [h4]; exact h) q⟩
    obtain ⟨k1, k2, k3⟩ := nth_ok hm
    have := h6 (nth f N m) (by omega) k2
    rw [k3] at this
    exact this
  · intro i σ' ⟨h1, h2, h3, h4, h5, h6, h7⟩ h k
    obtain ⟨n, rfl⟩ := nat_of h1
    have hn : n < N := by omega
    have hh : ∀ j, j < N → σ' (g + 3) j = f j := fun j hj => by rw [h7 (g + 3) (by simp) j]; exact (hf j hj).1
    rw [tn_cast] at h3
    have hrk := rk_le f n
    have hs : rk f (n + 1) = rk f n + (if f n = n then 1 else 0) := rfl
    have hfn := (hf n hn).2
    refine t_X1_numberAll_7 hS hg ⟨fun q => absurd q (by rw [h4]; omega), fun _ => ⟨⟨by omega, by omega⟩, ?_⟩⟩
    rw [tn_cast, hh n hn]
    refine ⟨fun q => ?_, fun q => ?_⟩
    · have q' : f n ≠ n := fun e => q (by omega)
      have hlt : f n < n := by omega
      rw [if_neg q'] at hs
      simp only [tn_cast, hh n hn]
      refine ⟨⟨by omega, by omega⟩, ⟨by omega, by omega⟩, ⟨by omega, by omega⟩, inR_s (by omega) (by omega), k _ ⟨by omega, by omega, ?_, ?_, ?_, ?_, ?_⟩⟩
      · rw [up2_a (by omega), h3, show ((n : Int) + 1).toNat = n + 1 from rfl, hs]; rfl
      · rw [up2_a (by omega)]; exact h4
      · intro j hj
        by_cases e : j = n
        · subst e; rw [up2_s, h5 _ (by omega), hfn.2]
        · rw [up2_i e]; exact h5 j (by omega)
      · intro j hj hj2
        rw [up2_a (by omega)]
        exact h6 j (by have : j ≠ n := fun e => q' (by rw [← e]; exact hj2); omega) hj2
      · exact h7.put (by simp)
    · have q' : f n = n := by omega
      rw [if_pos q'] at hs
      simp only [tn_cast, h3]
      refine ⟨⟨by omega, by omega⟩, ⟨by omega, by omega⟩, inR_s (by omega) (by omega), inR_s (by omega) (by omega), k _ ⟨by omega, by omega, ?_, ?_, ?_, ?_, ?_⟩⟩
      · rw [up2_s, show ((n : Int) + 1).toNat = n + 1 from rfl, hs]; rfl
      · rw [up2_i (by decide), up2_a (by omega), up2_a (by omega)]; exact h4
      · intro j hj
        rw [up2_a (by omega)]
        by_cases e : j = n
        · subst e; rw [up2_s, q']
        · rw [up2_i e, up2_a (by omega)]; exact h5 j (by omega)
      · intro j hj hj2
        rw [up2_a (by omega), up2_a (by omega)]
        by_cases e : j = n
        · subst e; rw [up2_s]
        · have hlt : j < n := by omega
          have := rk_lt (f := f) hlt hj2
          rw [up2_i (by omega)]; exact h6 j (by omega) hj2
      · exact ((h7.put (by simp)).put (by simp)).put (by simp)
  · refine ⟨by omega, by omega, up2_s _ _ _ _, by rw [up2_i (by decide)]; exact hN, fun j hj => by omega, fun j hj => by omega, fr.rf.put (by simp)⟩
end GROUPS
