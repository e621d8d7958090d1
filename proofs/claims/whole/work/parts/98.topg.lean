/-! the class's calls: more acts, sheet, feed -/
section TOPG
variable {S : ShT} {σ σ1 : StT} {Q : Int → StT → Prop} {M : Ms} {D : Dw} {N : Nat} {f : Nat → Nat} {L : Hs}
theorem cW.pl {N' : Nat} {f' : Nat → Nat} (h : cW σ D N f) (hf : fr [51, 52] σ σ1) (hp : pl σ1 51 N' f') (ho : okE D N' f') : cW σ1 D N' f' := by
  obtain ⟨h1, h2, h3, h4, h5, h6, h7⟩ := h
  exact ⟨h1.ext (fun j => hf 4 (by decide) j) (fun j => hf 5 (by decide) j) (fun j => hf 6 (by decide) j), ho, h3.ext (fun b b1 b2 j => hf b (by simp; omega) j), h4.ext (fun b b1 b2 j => hf b (by simp; omega) j), h5.ext (fun j => hf 33 (by decide) j) (fun j => hf 32 (by decide) j), h6.ext (hf 40 (by decide) 9) (hf 40 (by decide) 12) (fun b b1 b2 j => hf b (by simp; omega) j), hp⟩
theorem c_join {v : Int} (hS : SHP S) : CS S mX10_join [vR 1, vI v] M (A_join M v) := fun σ Q h hQ => by
  unfold A_join at hQ
  refine e_X10_join hS ⟨fun c => ?_, fun c => ?_⟩
  · have d := h.d c
    rw [if_pos d] at hQ
    have ref : ¬ (0 ≤ v ∧ v ≤ 50) → WPs mX10_refused [vR 1, vI 2] S σ Q := fun z => by
      rw [if_neg z] at hQ; exact c_ref hS h frR.rf (by omega) hQ
    refine ⟨fun q => ref (by omega), fun q1 => ⟨fun q2 => ?_, fun q => ref (by omega)⟩⟩
    rw [if_pos (by omega)] at hQ
    refine c_keep hS h d ?_
    intro σ1 k1 f1 W1 z1
    rw [W1.1.2.2.1]
    refine ⟨fun q3 => ?_, fun q3 => ?_⟩
    · rw [if_pos q3] at hQ
      rw [W1.2.2.2.2.2.1.1, ← W1.2.1.2.1]
      exact e_X10_told hS (hQ _ (h.act d (fun b hb j => f1 b (by omega) j) k1 (h.1.k d) z1 W1) ((f1.mono (by omega) (by omega)).put (by omega) (by omega)))
    · rw [if_neg q3] at hQ
      obtain ⟨⟨a1, a2, a3, a4, a5, a6, a7, a8⟩, ⟨o1, -, -⟩, -⟩ := W1
      have F2 : frR 4 5 σ1 (up2 σ1 4 4 v) := frR.rf.put (by omega) (by omega)
      obtain ⟨k1', k2, k3, k4, k5, k6, k7, k8⟩ := o1
      have ho2 : okDw (joinD M.D v) := ⟨k1', k2, ⟨by show 0 ≤ v; omega, by show v ≤ 50; omega⟩, k4, k5, k6, k7, k8⟩
      have d2 : cD (up2 σ1 4 4 v) 4 (joinD M.D v) := by
        refine ⟨?_, ?_, ?_, ?_, ?_, ?_, ?_, fun e he => ?_⟩
        · rw [up2_i (by decide)]; exact a1
        · rw [up2_i (by decide)]; exact a2
        · rw [up2_s]; rfl
        · rw [up2_i (by decide)]; exact a4
        · rw [up2_i (by decide)]; exact a5
        · rw [up2_i (by decide)]; exact a6
        · rw [up2_i (by decide)]; exact a7
        · rw [F2 _ (by omega), F2 _ (by omega)]; exact a8 e he
      refine sp_startPlan hS d2 ho2 (fun u hu => by rw [F2 30 (by omega)]; exact z1 u hu) ?_
      intro σ3 W3 z3 f3
      rw [W3.2.2.2.2.2.1.1]
      refine e_X10_told hS (hQ _ (h.act d (fun b hb j => by rw [f3 b (by omega), F2 b (by omega), f1 b (by omega)]) ((k1.ext F2 (by omega)).ext f3 (by omega)) (h.1.k d) z3 W3) ?_)
      exact (((f1.mono (by omega) (by omega)).trans (F2.mono (by omega) (by omega))).trans (f3.mono (by omega) (by omega))).put (by omega) (by omega)
  · rw [if_neg (h.nd c)] at hQ; exact c_ref hS h frR.rf (by omega) hQ
theorem c_exchange {i k : Int} (hS : SHP S) : CS S mX10_exchange [vR 1, vI i, vI k] M (A_exchange M i k) := fun σ Q h hQ => by
  unfold A_exchange at hQ
  have ref : ¬ (M.dr = true ∧ (0 ≤ i ∧ i < M.N) ∧ (0 ≤ k ∧ k < M.N)) → WPs mX10_refused [vR 1, vI 1] S σ Q := fun z => by
    rw [if_neg z] at hQ; exact c_ref hS h frR.rf (by omega) hQ
  refine e_X10_exchange hS (c_hasPlace hS h (fun d p0 p1 => ⟨fun q => absurd q (by decide), fun _ => c_hasPlace hS h (fun _ k0 k1 => ⟨fun _ => ⟨fun q => ?_, fun q => ?_⟩, fun q => absurd q (by decide)⟩) (fun c => ⟨fun q => absurd rfl q, fun _ => ref (fun z => c ⟨z.1, z.2.2.1, z.2.2.2⟩)⟩)⟩) (fun c => ⟨fun _ => ref (fun z => c ⟨z.1, z.2.1.1, z.2.1.2⟩), fun q => absurd rfl q⟩))
  · rw [if_pos ⟨d, ⟨p0, p1⟩, k0, k1⟩, if_pos q] at hQ
    obtain ⟨x, rfl⟩ := nat_of p0
    obtain ⟨y, rfl⟩ := nat_of k0
    simp only [tn_cast] at hQ
    refine c_keep hS h d ?_
    intro σ1 b1 f1 W1 z1
    have ho := W1.2.1.2.2
    refine sp_turnRun hS isP_a W1.2.2.2.2.2.2 ho W1.2.1.1.l (by omega) (by omega) ?_
    intro σ2 p2 f2
    have W2 : cW σ2 M.D M.N (rvs x y M.f) := W1.pl (f2.mono (by simp)) p2 ⟨W1.2.1.1, W1.2.1.2.1, ho.rv (by omega)⟩
    refine sp_wholeTravel hS isP_a W2.wP p2 W2.2.1.2.2 ?_
    refine e_X10_told hS (hQ _ (h.act d (fun b hb j => by rw [f2 b (by simp; omega), f1 b (by omega)]) (b1.ext (lo := 52) (hi := 53) (f2.R (by simp)) (by omega)) (h.1.k d) (fun u hu => by rw [f2 30 (by simp)]; exact z1 u hu) W2) ?_)
    exact ((f1.mono (by omega) (by omega)).trans (f2.R (by simp))).put (by omega) (by omega)
  · rw [if_pos ⟨d, ⟨p0, p1⟩, k0, k1⟩, if_neg q] at hQ
    exact c_ref hS h frR.rf (by omega) hQ
theorem c_improve (hS : SHP S) : CS S mX10_improve [vR 1] M (A_improve M) := fun σ Q h hQ => by
  unfold A_improve at hQ
  refine e_X10_improve hS ⟨fun c => ?_, fun c => ?_⟩
  · have d := h.d c
    have W := h.w d
    have ho := W.2.1.2.2
    rw [if_pos d] at hQ
    refine sp_pcopy (q := 51) hS isP_o isP_a (by omega) W.2.2.2.2.2.2 ho.1 ?_
    intro σ1 p1 f1
    have h1 : cT σ1 M := h.scr (fun b hb j => f1 b (by simp; omega) j)
    refine sp_makeBetter hS isP_o (h1.w d).wP p1 ho ?_
    intro σ2 p2 f2
    have F2 : frR 1 125 σ σ2 := (f1.R (by simp)).trans (f2.R (by simp))
    have h2 : cT σ2 M := h1.scr (fun b hb j => f2 b (by simp; omega) j)
    have hb : okF M.T M.N M.b.2 := (bets_F c200 ho).1
    refine ⟨fun q => ?_, fun q => ?_⟩
    · have q' : ¬ M.b.1 = 0 := fun z => q (by have : (bets (gG M.D) (hm M.D) (TT M.D) M.N c200 M.f).1 = 0 := z; omega)
      rw [if_neg q'] at hQ
      refine c_keep hS h2 d ?_
      intro σ3 k3 f3 W3 z3
      refine sp_pcopy (q := 122) (N := M.N) (f := M.b.2) hS isP_a isP_o (by omega) (p2.ext (f3 122 (by omega) 4) (fun j => f3 123 (by omega) j)) ho.1 ?_
      intro σ4 p4 f4
      have W4 : cW σ4 M.D M.N M.b.2 := W3.pl f4 p4 ⟨W3.2.1.1, W3.2.1.2.1, hb⟩
      refine sp_wholeTravel hS isP_a W4.wP p4 hb ?_
      refine e_X10_told hS (hQ _ (h2.act d (fun b hb j => by rw [f4 b (by simp; omega), f3 b (by omega)]) (k3.ext (lo := 51) (hi := 53) (f4.R (by simp)) (by omega)) (h.1.k d) (fun u hu => by rw [f4 30 (by simp)]; exact z3 u hu) W4) ?_)
      exact ((F2.trans (f3.mono (by omega) (by omega))).trans (f4.R (by simp))).put (by omega) (by omega)
    · have q' : M.b.1 = 0 := by
        show (bets (gG M.D) (hm M.D) (TT M.D) M.N c200 M.f).1 = 0; omega
      rw [if_pos q'] at hQ
      exact c_ref hS h2 F2 (by omega) hQ
  · rw [if_neg (h.nd c)] at hQ; exact c_ref hS h frR.rf (by omega) hQ
theorem c_undo (hS : SHP S) : CS S mX10_undo [vR 1] M (A_undo M) := fun σ Q h hQ => by
  have hH := h.2.2.2.2.2.2.2.1
  unfold A_undo at hQ
  cases hL : M.L with
  | nil =>
    rw [hL] at hQ hH
    refine e_X10_undo hS ⟨fun q => absurd hH.1 q, fun _ => e_X10_refused hS (hQ _ (h.t (by omega)) (frR.rf.put (by omega) (by omega)))⟩
  | cons e L =>
    rw [hL] at hQ hH
    obtain ⟨D, N, f⟩ := e
    have d : M.dr = true := by
      by_cases d : M.dr = true
      · exact d
      · have := h.1.2.2.2.2.1 (dr_f d); rw [hL] at this; cases this
    have oE : okE D N f := by have := h.1.2.2.1 0 (by rw [hL]; simp); rw [hL] at this; exact this
    have oL : ∀ i, i < L.length → okE (hg L i).1 (hg L i).2.1 (hg L i).2.2 := fun i hi => by
      have := h.1.2.2.1 (i + 1) (by rw [hL]; simpa using hi); rw [hL] at this; exact this
    refine e_X10_undo hS ⟨fun _ => sp_takeBack hS hH oE.1.1 oE.2.2.1 ?_, fun q => absurd (hH.1.symm.trans q) (by simp; omega)⟩
    intro σ1 k1 d1 p1 f1
    have hz1 : z30 σ1 := fun u hu => by rw [f1 30 (by decide) (by decide) (by decide) (by decide) (by decide) (by decide)]; exact h.2.2.2.2.2.2.2.2.1 u hu
    refine sp_startPlan hS d1 oE.1 hz1 ?_
    intro σ2 W2 z2 f2
    refine sp_pcopy (q := 122) (N := N) (f := f) hS isP_a isP_o (by omega) (p1.ext (f2 122 (by omega) 4) (fun j => f2 123 (by omega) j)) oE.2.2.1 ?_
    intro σ3 p3 f3
    have W3 : cW σ3 D N f := W2.pl f3 p3 oE
    refine e_X10_told hS (hQ _ (h.act d (fun b hb j => by rw [f3 b (by simp; omega), f2 b (by omega), f1 b (by omega) (by omega) (by omega) (by omega) (by omega) (by omega)]) ((k1.ext f2 (by omega)).ext (lo := 51) (hi := 53) (f3.R (by simp)) (by omega)) oL (fun u hu => by rw [f3 30 (by simp)]; exact z2 u hu) W3) ?_)
    have F1 : frR 1 125 σ σ1 := fun b hb j => f1 b (by omega) (by omega) (by omega) (by omega) (by omega) (by omega) j
    exact ((F1.trans (f2.mono (by omega) (by omega))).trans (f3.R (by simp))).put (by omega) (by omega)
end TOPG
