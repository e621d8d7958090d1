/-! the class's calls: the plan's queries -/
section TOPD
variable {S : ShT} {σ : StT} {Q : Int → StT → Prop} {M : Ms}
theorem isP_a : isP 51 := Or.inl rfl
theorem isP_o : isP 122 := by unfold isP; omega
theorem c_travel (hS : SHP S) : CS S mX10_travel [vR 1] M (A_travel M) := fun σ Q h hQ => by
  unfold A_travel at hQ
  refine e_X10_travel hS ⟨fun c => ?_, fun c => ?_⟩
  · rw [if_neg (h.nd c)] at hQ; exact c_ref hS h frR.rf (by omega) hQ
  · have d := h.d c
    have W := h.w d
    rw [if_pos d] at hQ
    exact sp_wholeTravel hS isP_a W.wP W.2.2.2.2.2.2 W.2.1.2.2 (c_told hS h frR.rf hQ)
theorem c_started (hS : SHP S) : CS S mX10_started [vR 1] M (A_started M) := fun σ Q h hQ => by
  unfold A_started at hQ
  refine e_X10_started hS ⟨fun c => ?_, fun c => ?_⟩
  · have d := h.d c
    have W := h.w d
    rw [if_pos d] at hQ
    refine sp_start (T := M.T) hS isP_o W.2.2.2.2.2.1.1 W.2.1.1.l ?_
    intro σ1 p1 f1
    have F1 : frR 1 125 σ σ1 := f1.R (by simp)
    have h1 : cT σ1 M := h.scr (fun b hb j => f1 b (by simp; omega) j)
    have W1 := h1.w d
    exact sp_wholeTravel hS isP_o W1.wP p1 (okE.st W.2.1.1).2.2 (c_told hS h1 F1 hQ)
  · rw [if_neg (h.nd c)] at hQ; exact c_ref hS h frR.rf (by omega) hQ
theorem c_better {w : Int} (hS : SHP S) : CS S mX10_better [vR 1, vI w] M (A_better M w) := fun σ Q h hQ => by
  unfold A_better at hQ
  have ref : ¬ (M.dr = true ∧ 0 ≤ w ∧ w ≤ 1) → WPs mX10_refused [vR 1, vI 1] S σ Q := fun z => by
    rw [if_neg z] at hQ; exact c_ref hS h frR.rf (by omega) hQ
  refine e_X10_better hS ⟨fun c => ref (fun z => h.nd c z.1), fun c => ⟨fun q => ref (fun z => by omega), fun q => ⟨fun q1 => ?_, fun q1 => ref (fun z => by omega)⟩⟩⟩
  have d := h.d c
  have W := h.w d
  have ho := W.2.1.2.2
  rw [if_pos ⟨d, by omega, q1⟩] at hQ
  refine sp_pcopy (q := 51) hS isP_o isP_a (by omega) W.2.2.2.2.2.2 ho.1 ?_
  intro σ1 p1 f1
  have h1 : cT σ1 M := h.scr (fun b hb j => f1 b (by simp; omega) j)
  refine sp_makeBetter hS isP_o (h1.w d).wP p1 ho ?_
  intro σ2 p2 f2
  have F2 : frR 1 125 σ σ2 := (f1.R (by simp)).trans (f2.R (by simp))
  have h2 : cT σ2 M := h1.scr (fun b hb j => f2 b (by simp; omega) j)
  refine ⟨fun q2 => ?_, fun q2 => ?_⟩
  · rw [if_neg q2] at hQ; exact c_told hS h2 F2 hQ
  · rw [if_pos q2] at hQ
    exact sp_wholeTravel hS isP_o (h2.w d).wP p2 (bets_F c200 ho).1 (c_told hS h2 F2 hQ)
theorem c_exchanged {i k : Int} (hS : SHP S) : CS S mX10_exchanged [vR 1, vI i, vI k] M (A_exchanged M i k) := fun σ Q h hQ => by
  unfold A_exchanged at hQ
  have ref : ¬ (M.dr = true ∧ 0 ≤ i ∧ i ≤ k ∧ k < M.N) → WPs mX10_refused [vR 1, vI 1] S σ (fun r s => Q (-2147483648) s) := fun z => by
    rw [if_neg z] at hQ
    exact e_X10_refused hS (hQ _ (h.t (by omega)) (frR.rf.put (by omega) (by omega)))
  refine e_X10_exchanged hS (c_hasPlace hS h (fun d p0 p1 => ⟨fun q => absurd q (by decide), fun _ => c_hasPlace hS h (fun _ k0 k1 => ⟨fun q => absurd q (by decide), fun _ => ⟨fun q => ?_, fun q => ref (fun z => by omega)⟩⟩) (fun c => ⟨fun _ => ref (fun z => c ⟨z.1, by omega, by omega⟩), fun q => absurd rfl q⟩)⟩) (fun c => ⟨fun _ => ref (fun z => c ⟨z.1, by omega, by omega⟩), fun q => absurd rfl q⟩))
  have W := h.w d
  rw [if_pos ⟨d, p0, q, k1⟩] at hQ
  obtain ⟨x, rfl⟩ := nat_of p0
  obtain ⟨y, rfl⟩ := nat_of k0
  simp only [tn_cast] at hQ
  exact sp_changeBy hS isP_a W.wP W.2.2.2.2.2.2 W.2.1.2.2 (by omega) (by omega) (c_told hS h frR.rf hQ)
theorem c_floor (hS : SHP S) : CS S mX10_floor [vR 1] M (A_floor M) := fun σ Q h hQ => by
  unfold A_floor at hQ
  refine e_X10_floor hS ⟨fun c => ?_, fun c => ?_⟩
  · rw [if_neg (h.nd c)] at hQ; exact c_ref hS h frR.rf (by omega) hQ
  · have d := h.d c
    have W := h.w d
    rw [if_pos d] at hQ
    refine sp_leastTree hS W.wP ?_
    intro σ1 f1
    exact c_told hS (h.scr (fun b hb j => f1 b (by simp; omega) j)) (f1.R (by simp)) hQ
theorem okDw.p {D : Dw} (h : okDw D) : (0 ≤ D.dn ∧ D.dn ≤ 9) ∧ (0 ≤ D.up ∧ D.up ≤ 9) := by
  obtain ⟨-, -, -, -, -, k6, k7, -⟩ := h; omega
theorem c_time (hS : SHP S) : CS S mX10_time [vR 1] M (A_time M) := fun σ Q h hQ => by
  unfold A_time at hQ
  refine e_X10_time hS ⟨fun c => ?_, fun c => ?_⟩
  · rw [if_neg (h.nd c)] at hQ; exact c_ref hS h frR.rf (by omega) hQ
  · have d := h.d c
    have W := h.w d
    rw [if_pos d] at hQ
    obtain ⟨⟨a, b⟩, c, e⟩ := W.2.1.1.p
    exact sp_wholeTime hS isP_a W.wP W.2.2.2.2.2.2 W.2.1.2.2 W.1.2.2.2.2.2.1 W.1.2.2.2.2.2.2.1 a b c e (c_told hS h frR.rf hQ)
theorem c_pen {t w : Int} (hS : SHP S) : CS S mX10_pen [vR 1, vI t, vI w] M (A_pen M t w) := fun σ Q h hQ => by
  unfold A_pen at hQ
  have ref : ¬ (M.dr = true ∧ 0 ≤ w ∧ w ≤ 2) → WPs mX10_refused [vR 1, vI 1] S σ Q := fun z => by
    rw [if_neg z] at hQ; exact c_ref hS h frR.rf (by omega) hQ
  refine e_X10_pen hS ⟨fun c => ref (fun z => h.nd c z.1), fun c => ⟨fun q => ref (fun z => by omega), fun q => ⟨fun q1 => ?_, fun q1 => ref (fun z => by omega)⟩⟩⟩
  have d := h.d c
  have W := h.w d
  rw [if_pos ⟨d, by omega, q1⟩] at hQ
  have ref2 : ¬ (0 ≤ t ∧ t ≤ 99999) → WPs mX10_refused [vR 1, vI 2] S σ Q := fun z => by
    rw [if_neg z] at hQ; exact c_ref hS h frR.rf (by omega) hQ
  refine ⟨fun q2 => ref2 (by omega), fun q2 => ⟨fun q3 => ?_, fun q3 => ref2 (by omega)⟩⟩
  rw [if_pos ⟨by omega, q3⟩] at hQ
  obtain ⟨⟨a, b⟩, c, e⟩ := W.2.1.1.p
  exact sp_penAt hS isP_a W.wP W.2.2.2.2.2.2 W.2.1.2.2 W.1.2.2.2.2.2.1 W.1.2.2.2.2.2.2.1 a b c e (c_told hS h frR.rf hQ)
theorem c_longest (hS : SHP S) : CS S mX10_longest [vR 1] M (A_longest M) := fun σ Q h hQ => by
  unfold A_longest at hQ
  refine e_X10_longest hS ⟨fun c => ?_, fun c => ?_⟩
  · rw [if_neg (h.nd c)] at hQ; exact c_ref hS h frR.rf (by omega) hQ
  · have d := h.d c
    have W := h.w d
    rw [if_pos d] at hQ
    exact sp_longestPlace hS isP_a W.wP W.2.2.2.2.2.2 W.2.1.2.2 (c_told hS h frR.rf hQ)
theorem c_farthest (hS : SHP S) : CS S mX10_farthest [vR 1] M (A_farthest M) := fun σ Q h hQ => by
  unfold A_farthest at hQ
  refine e_X10_farthest hS ⟨fun c => ?_, fun c => ?_⟩
  · rw [if_neg (h.nd c)] at hQ; exact c_ref hS h frR.rf (by omega) hQ
  · have d := h.d c
    have W := h.w d
    rw [if_pos d] at hQ
    exact sp_farthestLeg hS isP_a W.wP W.2.2.2.2.2.2 W.2.1.2.2 (c_told hS h frR.rf hQ)
theorem c_lifts (hS : SHP S) : CS S mX10_lifts [vR 1] M (A_lifts M) := fun σ Q h hQ => by
  unfold A_lifts at hQ
  refine e_X10_lifts hS ⟨fun c => ?_, fun c => ?_⟩
  · rw [if_neg (h.nd c)] at hQ; exact c_ref hS h frR.rf (by omega) hQ
  · have d := h.d c
    have W := h.w d
    rw [if_pos d] at hQ
    exact sp_lifts hS isP_a W.wP W.2.2.2.2.2.2 W.2.1.2.2 (c_told hS h frR.rf hQ)
theorem c_rides {s : Int} (hS : SHP S) : CS S mX10_rides [vR 1, vI s] M (A_rides M s) := fun σ Q h hQ => by
  unfold A_rides at hQ
  refine e_X10_rides hS (c_hasStroke hS h (fun d s0 s1 => ⟨fun q => absurd q (by decide), fun _ => ?_⟩) (fun c => ⟨fun _ => ?_, fun q => absurd rfl q⟩))
  · have W := h.w d
    have hn := W.2.1.1.1
    rw [if_pos ⟨d, s0, s1⟩] at hQ
    obtain ⟨s, rfl⟩ := nat_of s0
    obtain ⟨t, t1, t2, t3⟩ := toS_is (s := s) W.2.2.2.2.2.1 (in_flat W.2.1.1.g.1 (by show s < M.D.n; omega))
    have t1' : toS M.T s = some t := t1
    rw [tn_cast, t1'] at hQ
    rw [tn_cast, t3]
    exact ⟨⟨by omega, by omega⟩, sp_placeOf hS isP_a W.2.2.2.2.2.2 W.2.1.2.2.1 (c_told hS h frR.rf hQ)⟩
  · rw [if_neg c] at hQ
    exact c_ref hS h frR.rf (by omega) hQ
end TOPD
