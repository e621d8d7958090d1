/-! Pairing: rows of pairs, cuts; the whole of gather -/
abbrev pg (P : List (Nat × Nat)) (i : Nat) : Nat × Nat := P.getD i (0, 0)
theorem gd_snoc {α : Type} {d : α} (l : List α) (x : α) (i : Nat) : (l ++ [x]).getD i d = if i < l.length then l.getD i d else if i = l.length then x else d := by
  simp only [List.getD_eq_getElem?_getD]
  by_cases h : i < l.length
  · rw [if_pos h, List.getElem?_append_left h]
  · rw [if_neg h, List.getElem?_append_right (by omega)]
    by_cases e : i = l.length
    · rw [if_pos e, e, Nat.sub_self]; rfl
    · rw [if_neg e]
      obtain ⟨k, hk⟩ : ∃ k, i - l.length = k + 1 := ⟨i - l.length - 1, by omega⟩
      rw [hk]; rfl
theorem gd_app {α : Type} {d : α} {l k : List α} {i : Nat} (h : i < l.length) : (l ++ k).getD i d = l.getD i d := by
  simp only [List.getD_eq_getElem?_getD]
  rw [List.getElem?_append_left h]
def atQ (σ : StT) (G : Geo) (P : List (Nat × Nat)) : Prop := σ 20 6 = P.length ∧ ∀ i, i < P.length → σ 21 i = (pg P i).1 ∧ σ 22 i = (pg P i).2 ∧ σ 23 i = mds G (pg P i).1 (pg P i).2
theorem atQ.ext {σ σ' : StT} {G : Geo} {P : List (Nat × Nat)} (h : atQ σ G P) (h0 : σ' 20 6 = σ 20 6) (h1 : ∀ b, 21 ≤ b → b < 24 → ∀ j, σ' b j = σ b j) : atQ σ' G P := by
  refine ⟨h0.trans h.1, fun i hi => ?_⟩
  rw [h1 21 (by omega) (by omega), h1 22 (by omega) (by omega), h1 23 (by omega) (by omega)]
  exact h.2 i hi
section PAIR4
variable {S : ShT} {σ : StT} {Q : Int → StT → Prop}
theorem sp_listOdds {G : Geo} {p : Nat} (hS : SHP S) (hM : atM σ 7 G) (hn : G.1 ≤ 24) (hQ : ∀ σ' : StT, σ' 20 8 = ocn G p → (∀ i, i < ocn G p → σ' 26 i = ol G p i) → fr [20, 26] σ σ' → (∀ k, k ≠ 8 → σ' 20 k = σ 20 k) → Q 0 σ') : WPs mX4_listOdds [vR 20, vI (p : Int)] S σ Q := by
  have hml := mcn_le G
  have hle : ∀ k, cnt (fun m => odd G m && decide (pt G m = p)) k ≤ k := cnt_le _
  refine e_X4_listOdds hS ?_
  generalize hP : (fun m => odd G m && decide (pt G m = p)) = P at *
  have hPv : ∀ m, P m = (odd G m && decide (pt G m = p)) := fun m => by rw [← hP]
  refine lup (I := fun i σ' => 0 ≤ i ∧ i ≤ mcn G ∧ σ' 20 8 = ((List.range i.toNat).filter P).length ∧ (∀ j, j < ((List.range i.toNat).filter P).length → σ' 26 j = ((List.range i.toNat).filter P).getD j 0) ∧ fr [20, 26] σ σ' ∧ ∀ k, k ≠ 8 → σ' 20 k = σ 20 k) (W := fun i σ' => AWs mX4_listOdds 7 [(0, vR 20), (1, vI (p : Int)), (2, vI i)] [] S σ' Q) (mcn G : Int) ?_ ?_ 0 _ ⟨by omega, by omega, up2_s _ _ _ _, fun j hj => absurd hj (by simp), fr.rf.put (by simp), fun k hk => up2_i hk⟩
  · intro i σ1 ⟨i0, i1, i2, i3, i4, i5⟩ hge
    have e : i = (mcn G : Int) := by omega
    subst e
    rw [tn_cast] at i2 i3
    have hOL : (List.range (mcn G)).filter P = OL G p := by unfold OL; rw [hP]
    rw [hOL] at i2 i3
    refine t_X4_listOdds_7 hS ?_
    refine e_X3_count hS isM_a ?_
    rw [i4 (7 + 1) (by decide) 2, hM.1.1]
    refine ⟨fun _ => hQ σ1 (by rw [i2, OL_len]) (fun j hj => by rw [i3 j (by rw [OL_len]; exact hj)]; rfl) i4 i5, fun q => absurd hge q⟩
  · intro i σ1 ⟨i0, i1, i2, i3, i4, i5⟩ hlt kk
    obtain ⟨t, rfl⟩ := nat_of i0
    have ht : t < mcn G := by omega
    rw [tn_cast] at i2 i3
    have hl := cnt_filter P t
    have hcl := hle t
    have hs : (List.range (t + 1)).filter P = if P t = true then (List.range t).filter P ++ [t] else (List.range t).filter P := by
      rw [List.range_succ, List.filter_append]
      cases h : P t <;> simp [h]
    refine t_X4_listOdds_7 hS ?_
    refine e_X3_count hS isM_a ?_
    rw [i4 (7 + 1) (by decide) 2, hM.1.1]
    refine ⟨fun q => absurd q (by omega), fun _ => ?_⟩
    refine e_X3_partOf hS isM_a ⟨⟨by omega, by omega⟩, ?_⟩
    rw [tn_cast, i4 (7 + 5 + 1) (by decide) t, hM.2.1.2.1 t ht]
    refine ⟨fun q => ⟨inR_s (by omega) (by omega), kk σ1 ?_⟩, fun q => ?_⟩
    · have hf : P t = false := by rw [hPv]; simp; intro _ z; exact q (by omega)
      rw [show ((t : Int) + 1).toNat = t + 1 from rfl, hs, hf]
      exact ⟨by omega, by omega, i2, i3, i4, i5⟩
    · refine sp_isOdd (G := G) hS isM_a (by omega) (by rw [i4 (7 + 11) (by decide) t]; exact hM.2.2.1 t ht) ?_
      have hpt : pt G t = p := by omega
      cases ho : odd G t
      · have hf : P t = false := by rw [hPv, ho]; rfl
        refine ⟨fun _ => ⟨inR_s (by omega) (by omega), kk σ1 ?_⟩, fun q2 => absurd rfl q2⟩
        rw [show ((t : Int) + 1).toNat = t + 1 from rfl, hs, hf]
        exact ⟨by omega, by omega, i2, i3, i4, i5⟩
      · have hf : P t = true := by rw [hPv, ho, hpt]; simp
        rw [i2, tn_cast]
        refine ⟨fun q2 => absurd q2 (by simp), fun _ => ⟨⟨by omega, by omega⟩, inR_s (by omega) (by omega), inR_s (by omega) (by omega), kk _ ?_⟩⟩
        rw [show ((t : Int) + 1).toNat = t + 1 from rfl, hs, if_pos hf]
        refine ⟨by omega, by omega, ?_, ?_, (i4.put (by simp)).put (by simp), ?_⟩
        · rw [up2_s, List.length_append]; rfl
        · intro j hj
          rw [up2_a (by decide), gd_snoc]
          rw [List.length_append] at hj
          simp only [List.length_singleton] at hj
          by_cases e : j = ((List.range t).filter P).length
          · subst e; rw [up2_s, if_neg (Nat.lt_irrefl _), if_pos rfl]
          · rw [up2_i e, if_pos (by omega)]; exact i3 j (by omega)
        · intro k hk
          rw [up2_i hk, up2_a (by decide)]; exact i5 k hk
theorem sp_measureOdds {G : Geo} {p L : Nat} (hS : SHP S) (hok : okG G) (hE : atE σ 7 G) (hL : σ 20 8 = L) (hL14 : L ≤ 14) (hLo : L = ocn G p) (ho : ∀ i, i < L → σ 26 i = ol G p i) (hQ : ∀ σ' : StT, (∀ a b, a < L → b < L → σ' 27 (a * 14 + b) = oD G p a b) → fr [27] σ σ' → Q 0 σ') : WPs mX4_measureOdds [vR 20] S σ Q := by
  have hml := mcn_le G
  have hn := hok.1
  refine e_X4_measureOdds hS ?_
  refine lup (I := fun i σ' => 0 ≤ i ∧ (∀ a b : Nat, (a : Int) < i → a < L → b < L → σ' 27 (a * 14 + b) = oD G p a b) ∧ fr [27] σ σ') (W := fun i σ' => AWs mX4_measureOdds 2 [(0, vR 20), (1, vI i)] [] S σ' Q) (L : Int) ?_ ?_ 0 σ ⟨by omega, fun a b h => by omega, fr.rf⟩
  · intro i σ1 ⟨i0, i1, i2⟩ hge
    exact t_X4_measureOdds_2 hS ⟨fun _ => hQ σ1 (fun a b ha hb => i1 a b (by omega) ha hb) i2, fun q => absurd (by rw [i2 20 (by decide) 8, hL]; exact hge) q⟩
  · intro i σ1 ⟨i0, i1, i2⟩ hlt kk
    obtain ⟨a, rfl⟩ := nat_of i0
    refine t_X4_measureOdds_2 hS ⟨fun q => absurd q (by rw [i2 20 (by decide) 8, hL]; omega), fun _ => ?_⟩
    refine lup (I := fun i σ' => 0 ≤ i ∧ (∀ a' b' : Nat, a' < a → b' < L → σ' 27 (a' * 14 + b') = oD G p a' b') ∧ (∀ b' : Nat, (b' : Int) < i → b' < L → σ' 27 (a * 14 + b') = oD G p a b') ∧ fr [27] σ σ') (W := fun i σ' => AWs mX4_measureOdds 12 [(0, vR 20), (1, vI (a : Int)), (2, vI i)] [] S σ' Q) (L : Int) ?_ ?_ 0 σ1 ⟨by omega, fun a' b' h1 h2 => i1 a' b' (by omega) (by omega) h2, fun b' h => by omega, i2⟩
    · intro b σ2 ⟨j0, j1, j2, j3⟩ hge
      refine t_X4_measureOdds_12 hS ⟨fun _ => ⟨inR_s (by omega) (by omega), kk σ2 ⟨by omega, fun a' b' h1 h2 h3 => ?_, j3⟩⟩, fun q => absurd (by rw [j3 20 (by decide) 8, hL]; exact hge) q⟩
      by_cases e : a' = a
      · subst e; exact j2 b' (by omega) h3
      · exact j1 a' b' (by omega) h3
    · intro b σ2 ⟨j0, j1, j2, j3⟩ hlt2 k2
      obtain ⟨b, rfl⟩ := nat_of j0
      have ha : a < L := by omega
      have hb : b < L := by omega
      have oa := ol_mem (G := G) (p := p) (i := a) (by omega)
      have ob := ol_mem (G := G) (p := p) (i := b) (by omega)
      refine t_X4_measureOdds_12 hS ⟨fun q => absurd q (by rw [j3 20 (by decide) 8, hL]; omega), fun _ => ⟨inR_s (by omega) (by omega), inR_s (by omega) (by omega), ⟨by omega, by omega⟩, ⟨by omega, by omega⟩, ?_⟩⟩
      rw [tn_cast, tn_cast, j3 26 (by decide) a, j3 26 (by decide) b, ho a ha, ho b hb]
      refine sp_apart hS isM_a hok (hE.ext (fun c _ _ => j3 c (by simp; omega)) (fun c _ _ => j3 c (by simp; omega))) oa.1 ob.1 ?_
      rw [show ((a : Int) * 14 + (b : Int)).toNat = a * 14 + b by omega]
      refine ⟨⟨by omega, by omega⟩, inR_s (by omega) (by omega), k2 _ ⟨by omega, fun a' b' h1 h2 => ?_, fun b' h1 h2 => ?_, j3.put (by simp)⟩⟩
      · rw [up2_i (by omega)]; exact j1 a' b' h1 h2
      · by_cases e : b' = b
        · subst e; exact up2_s _ _ _ _
        · rw [up2_i (by omega)]; exact j2 b' (by omega) h2
theorem sp_putPair {G : Geo} {P : List (Nat × Nat)} {a b x y : Nat} (hS : SHP S) (hok : okG G) (hE : atE σ 7 G) (hq : atQ σ G P) (hl : P.length < 24) (ha : a < 48) (hb : b < 48) (hx : σ 26 a = x) (hy : σ 26 b = y) (hxm : x < mcn G) (hym : y < mcn G) (hQ : ∀ σ' : StT, atQ σ' G (P ++ [(x, y)]) → fr [20, 21, 22, 23] σ σ' → (∀ k, k ≠ 6 → σ' 20 k = σ 20 k) → Q 0 σ') : WPs mX4_putPair [vR 20, vI (a : Int), vI (b : Int)] S σ Q := by
  obtain ⟨q0, q1⟩ := hq
  refine e_X4_putPair hS ?_
  rw [q0, tn_cast, tn_cast, tn_cast, hx, hy]
  refine ⟨fun _ => ⟨⟨by omega, by omega⟩, ⟨by omega, by omega⟩, ⟨by omega, by omega⟩, ⟨by omega, by omega⟩, ⟨by omega, by omega⟩, ⟨by omega, by omega⟩, ?_⟩, fun q => absurd (by omega) q⟩
  refine sp_apart hS isM_a hok (hE.ext (fun c h1 h2 j => by rw [up2_a (by omega), up2_a (by omega)]) (fun c h1 h2 j => by rw [up2_a (by omega), up2_a (by omega)])) hxm hym ?_
  rw [up2_a (by decide), up2_a (by decide), q0]
  refine ⟨⟨by omega, by omega⟩, inR_s (by omega) (by omega), hQ _ ⟨?_, fun i hi => ?_⟩ ((((fr.rf.put (by simp)).put (by simp)).put (by simp)).put (by simp)) (fun k hk => by rw [up2_i hk, up2_a (by decide), up2_a (by decide), up2_a (by decide)])⟩
  · rw [up2_s, List.length_append]; rfl
  · rw [List.length_append] at hi
    simp only [List.length_singleton] at hi
    have hv : pg (P ++ [(x, y)]) i = if i < P.length then pg P i else if i = P.length then (x, y) else (0, 0) := gd_snoc _ _ _
    rw [hv]
    by_cases e : i = P.length
    · subst e
      rw [if_neg (Nat.lt_irrefl _), if_pos rfl]
      simp [up2]
    · rw [if_pos (by omega)]
      obtain ⟨k1, k2, k3⟩ := q1 i (by omega)
      simp [up2, e, k1, k2, k3]
end PAIR4
