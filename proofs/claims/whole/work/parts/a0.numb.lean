/-! the reference: numbers -/
section NUMB
variable {S : ShT} {σ : StT} {Q : Int → StT → Prop} {a na N : Nat} {f : Nat → Nat}
theorem sp_numbers (ha : S.2.1 a = (1, na)) (hS : SHP S) (hN : N ≤ na) (hna : na ≤ 48) (hf : ∀ i, i < N → σ a i = f i ∧ f i ≤ i ∧ f (f i) = f i) (hQ : ∀ σ' : StT, (∀ i, i < N → σ' a i = rk f (f i)) → fr [a] σ σ' → Q (rk f N : Int) σ') : WPs mX11_numbers [vR a, vI (N : Int)] S σ Q := by
  have hrk : ∀ k, rk f k ≤ k := rk_le f
  refine e_X11_numbers hS ha ?_
  -- the count
  refine lupg (α := Int) (I := fun i x => 0 ≤ i ∧ i ≤ (N : Int) ∧ x = (rk f i.toNat : Int)) (W := fun i x => AWs mX11_numbers 4 [(0, vR a), (1, vI (N : Int)), (2, vI x), (3, vI i)] [] S σ Q) (N : Int) ?_ ?_ 0 0 ⟨by omega, by omega, rfl⟩
  · rintro i x ⟨i0, i1, rfl⟩ hge
    have ei : i = (N : Int) := by omega
    subst ei
    rw [tn_cast]
    refine t_X11_numbers_4 hS ha ⟨fun _ => ?_, fun q => absurd hge q⟩
    -- each head gives its number to those that hold it
    refine lupg (α := Int × StT) (I := fun k x => 0 ≤ k ∧ k ≤ (N : Int) ∧ x.1 = (rk f k.toNat : Int) ∧ fr [a] σ x.2 ∧ ∀ i, i < N → x.2 a i = if (f i : Int) < k then -1 - (rk f (f i) : Int) else (f i : Int)) (W := fun k x => AWs mX11_numbers 30 [(0, vR a), (1, vI (N : Int)), (2, vI (rk f N : Int)), (3, vI x.1), (4, vI k)] [] S x.2 Q) (N : Int) ?_ ?_ 0 (0, σ) ⟨by omega, by omega, rfl, fr.rf, fun i hi => by rw [if_neg (by omega)]; exact (hf i hi).1⟩
    · rintro k ⟨x, σ1⟩ ⟨k0, k1, k2, k3, k4⟩ hge2
      refine t_X11_numbers_30 hS ha ⟨fun _ => ?_, fun q => absurd hge2 q⟩
      have ek : k = (N : Int) := by omega
      subst ek
      simp only at k3 k4
      refine lup (I := fun j σ' => 0 ≤ j ∧ j ≤ (N : Int) ∧ fr [a] σ σ' ∧ ∀ i, i < N → σ' a i = if (i : Int) < j then (rk f (f i) : Int) else -1 - (rk f (f i) : Int)) (W := fun j σ' => AWs mX11_numbers 117 [(0, vR a), (1, vI (N : Int)), (2, vI (rk f N : Int)), (4, vI j)] [] S σ' Q) (N : Int) ?_ ?_ 0 σ1 ⟨by omega, by omega, k3, fun i hi => ?_⟩
      · rintro j σ2 ⟨j0, j1, j2, j3⟩ hge3
        refine t_X11_numbers_117 hS ha ⟨fun _ => hQ σ2 (fun i hi => ?_) j2, fun q => absurd hge3 q⟩
        rw [j3 i hi, if_pos (by omega)]
      · rintro j σ2 ⟨j0, j1, j2, j3⟩ hlt3 kk
        obtain ⟨j, rfl⟩ := nat_of j0
        have hr := hrk (f j)
        have hfj := (hf j (by omega)).2.1
        refine t_X11_numbers_117 hS ha ⟨fun q => absurd q (by omega), fun _ => ?_⟩
        rw [tn_cast, j3 j (by omega), if_neg (by omega)]
        refine ⟨⟨by omega, by omega⟩, inR_s (by omega) (by omega), ⟨by omega, by omega⟩, inR_s (by omega) (by omega), kk _ ⟨by omega, by omega, j2.put (by simp), fun i hi => ?_⟩⟩
        by_cases e : i = j
        · subst e; rw [up2_s, if_pos (by omega)]; omega
        · rw [up2_i e, j3 i hi]
          by_cases c : (i : Int) < j
          · rw [if_pos c, if_pos (by omega)]
          · rw [if_neg c, if_neg (by omega)]
      · rw [k4 i hi, if_pos (by have := (hf i hi).2.1; omega), if_neg (by omega)]
    · rintro k ⟨x, σ1⟩ ⟨k0, k1, k2, k3, k4⟩ hlt2 kk
      obtain ⟨k, rfl⟩ := nat_of k0
      simp only [tn_cast] at k2 k3 k4
      subst k2
      have hk : k < N := by omega
      obtain ⟨-, f1, f2⟩ := hf k hk
      have hs : rk f (k + 1) = rk f k + if f k = k then 1 else 0 := rfl
      refine t_X11_numbers_30 hS ha ⟨fun q => absurd q (by omega), fun _ => ?_⟩
      simp only
      rw [tn_cast, k4 k hk]
      refine ⟨⟨by omega, by omega⟩, fun q => ?_, fun q => ?_⟩
      · have ne : f k ≠ k := fun e => by rw [if_neg (by omega)] at q; omega
        rw [if_neg ne] at hs
        refine ⟨inR_s (by omega) (by omega), kk (_, σ1) ⟨by omega, by omega, ?_, k3, fun i hi => ?_⟩⟩
        · rw [show ((k : Int) + 1).toNat = k + 1 from rfl, hs]; rfl
        · show σ1 a i = _
          rw [k4 i hi]
          by_cases c : (f i : Int) < k
          · rw [if_pos c, if_pos (by omega)]
          · have : f i ≠ k := fun e => by
              have := (hf i hi).2.2
              rw [e] at this
              exact ne this
            rw [if_neg c, if_neg (by omega)]
      · have e : f k = k := by
          by_cases c : (f k : Int) < k
          · rw [if_pos c] at q; omega
          · omega
        rw [if_pos e] at hs
        have hr := hrk k
        refine ⟨inR_s (by omega) (by omega), ?_⟩
        refine lup (I := fun j σ' => (k : Int) + 1 ≤ j ∧ j ≤ (N : Int) ∧ fr [a] σ σ' ∧ ∀ i, i < N → σ' a i = if (f i : Int) < k ∨ (f i = k ∧ k < i ∧ (i : Int) < j) then -1 - (rk f (f i) : Int) else (f i : Int)) (W := fun j σ' => AWs mX11_numbers 63 [(0, vR a), (1, vI (N : Int)), (2, vI (rk f N : Int)), (3, vI (rk f k : Int)), (4, vI (k : Int)), (6, vI j)] [] S σ' Q) (N : Int) ?_ ?_ ((k : Int) + 1) σ1 ⟨by omega, by omega, k3, fun i hi => ?_⟩
        · rintro j σ2 ⟨j0, j1, j2, j3⟩ hge3
          refine t_X11_numbers_63 hS ha ⟨fun _ => ⟨inR_s (by omega) (by omega), ⟨by omega, by omega⟩, inR_s (by omega) (by omega), inR_s (by omega) (by omega), kk ((rk f k : Int) + 1, up2 σ2 a k (-1 - (rk f k : Int))) ⟨by omega, by omega, ?_, j2.put (by simp), fun i hi => ?_⟩⟩, fun q => absurd hge3 q⟩
          · rw [show ((k : Int) + 1).toNat = k + 1 from rfl, hs]; rfl
          · show (up2 σ2 a k (-1 - (rk f k : Int))) a i = _
            by_cases c : i = k
            · subst c; rw [up2_s, e, if_pos (by omega)]
            · rw [up2_i c, j3 i hi]
              have hfi := (hf i hi).2.1
              by_cases c2 : (f i : Int) < k
              · rw [if_pos (Or.inl c2), if_pos (by omega)]
              · by_cases c3 : f i = k
                · rw [if_pos (Or.inr ⟨c3, by omega, by omega⟩), if_pos (by omega)]
                · rw [if_neg (by omega), if_neg (by omega)]
        · rintro j σ2 ⟨j0, j1, j2, j3⟩ hlt3 kk3
          obtain ⟨j, rfl⟩ := nat_of (show 0 ≤ j by omega)
          have hfj := (hf j (by omega)).2.1
          have hrj := hrk (f j)
          refine t_X11_numbers_63 hS ha ⟨fun q => absurd q (by omega), fun _ => ?_⟩
          rw [tn_cast]
          refine ⟨⟨by omega, by omega⟩, fun q => ⟨⟨by omega, by omega⟩, ⟨by omega, by omega⟩, inR_s (by omega) (by omega), kk3 _ ⟨by omega, by omega, j2.put (by simp), fun i hi => ?_⟩⟩, fun q => ⟨inR_s (by omega) (by omega), ⟨by omega, by omega⟩, inR_s (by omega) (by omega), kk3 _ ⟨by omega, by omega, j2.put (by simp), fun i hi => ?_⟩⟩⟩
          · rw [j3 j (by omega)] at q
            have hv : (up2 σ2 a j (σ2 a j)) a i = σ2 a i := by
              by_cases c : i = j
              · subst c; rw [up2_s]
              · rw [up2_i c]
            rw [hv, j3 i hi]
            by_cases c : i = j
            · subst c
              have : f i ≠ k := fun z => by rw [if_neg (by omega)] at q; omega
              by_cases c2 : (f i : Int) < k
              · rw [if_pos (Or.inl c2), if_pos (Or.inl c2)]
              · rw [if_neg (by omega), if_neg (by omega)]
            · by_cases c2 : (f i : Int) < k ∨ (f i = k ∧ k < i ∧ (i : Int) < j)
              · rw [if_pos c2, if_pos (by omega)]
              · rw [if_neg c2, if_neg (by omega)]
          · rw [j3 j (by omega)] at q
            have efj : f j = k := by
              by_cases c2 : (f j : Int) < k ∨ (f j = k ∧ k < j ∧ (j : Int) < j)
              · rw [if_pos c2] at q; omega
              · rw [if_neg c2] at q; omega
            by_cases c : i = j
            · subst c; rw [up2_s, efj, if_pos (by omega)]
            · rw [up2_i c, j3 i hi]
              by_cases c2 : (f i : Int) < k ∨ (f i = k ∧ k < i ∧ (i : Int) < j)
              · rw [if_pos c2, if_pos (by omega)]
              · rw [if_neg c2, if_neg (by omega)]
        · rw [k4 i hi]
          by_cases c : (f i : Int) < k
          · rw [if_pos c, if_pos (Or.inl c)]
          · rw [if_neg c, if_neg (by omega)]
  · rintro i x ⟨i0, i1, rfl⟩ hlt kk
    obtain ⟨i, rfl⟩ := nat_of i0
    have hr := hrk i
    have hs : rk f (i + 1) = rk f i + if f i = i then 1 else 0 := rfl
    refine t_X11_numbers_4 hS ha ⟨fun q => absurd q (by omega), fun _ => ?_⟩
    rw [tn_cast, (hf i (by omega)).1]
    refine ⟨⟨by omega, by omega⟩, fun q => ⟨inR_s (by omega) (by omega), kk _ ⟨by omega, by omega, ?_⟩⟩, fun q => ⟨inR_s (by omega) (by omega), inR_s (by omega) (by omega), kk _ ⟨by omega, by omega, ?_⟩⟩⟩
    · rw [show ((i : Int) + 1).toNat = i + 1 from rfl, hs, if_neg (by omega)]; rfl
    · rw [show ((i : Int) + 1).toNat = i + 1 from rfl, hs, if_pos (by omega)]; rfl
end NUMB
