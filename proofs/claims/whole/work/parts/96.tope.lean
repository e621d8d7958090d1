/-! the class's calls: what would be -/
section TOPE
variable {S : ShT} {σ : StT} {Q : Int → StT → Prop} {M : Ms} {D : Dw}
theorem tn_le {j : Int} (h : okDw D) : tn D j ≤ 576 := by
  have hn : (gD D j).1 ≤ 24 := h.1
  have hp := pcn_le_n (gD D j)
  have := sm_bd (f := nTr (gD D j)) (b := 24) (nTr_le _ hn) (pcn (gD D j))
  unfold tn; omega
theorem sp_other {j : Int} (hS : SHP S) (h : cD σ 106 D) (ho : okDw D) (j0 : 0 ≤ j) (j1 : j ≤ 50) (hQ : ∀ σ' : StT, frR 110 122 σ σ' → Q (tn D j : Int) σ') : WPs mX10_trailsOfOther [vR 1, vI j] S σ Q := by
  refine e_X10_trailsOfOther hS (sp_gather hS isM_b (h.ok ho) j0 j1 ?_)
  intro σ1 m1 f1
  rw [h.geo j] at m1
  exact sp_trailsInAll hS isM_b ho.1 m1 (hQ σ1 f1)
theorem cT.o {σ' : StT} (h : cT σ M) (F : frR 106 122 σ σ') : cT σ' M := h.scr (fun b hb j => F b (by omega) j)
theorem c_why {x y u v : Int} (hS : SHP S) (h : cT σ M) (hQ : Q (why M x y u v) σ) : WPs mX10_whyNoStroke [vR 1, vI x, vI y, vI u, vI v] S σ Q := by
  refine e_X10_whyNoStroke hS ⟨fun c => ?_, fun c => ?_⟩
  · have d := h.d c
    have W := h.w d
    unfold why at hQ
    rw [if_neg (by rw [d]; simp)] at hQ
    have bad : ¬ ((0 ≤ x ∧ x ≤ M.D.sz ∧ 0 ≤ y ∧ y ≤ M.D.sz) ∧ (0 ≤ u ∧ u ≤ M.D.sz ∧ 0 ≤ v ∧ v ≤ M.D.sz) ∧ ¬ (x = u ∧ y = v)) → Q 2 σ := fun z => by rw [if_neg z] at hQ; exact hQ
    have good : ((0 ≤ x ∧ x ≤ M.D.sz ∧ 0 ≤ y ∧ y ≤ M.D.sz) ∧ (0 ≤ u ∧ u ≤ M.D.sz ∧ 0 ≤ v ∧ v ≤ M.D.sz) ∧ ¬ (x = u ∧ y = v)) → AWs mX10_whyNoStroke 47 [(0, vR 1)] [] S σ Q := fun z => by
      rw [if_pos z] at hQ
      refine t_X10_whyNoStroke_47 hS ?_
      rw [W.1.1]
      refine ⟨fun q => ?_, fun q => ?_⟩
      · rw [if_neg (by omega)] at hQ; exact hQ
      · rw [if_pos (by omega)] at hQ; exact hQ
    refine e_X0_hasPoint hS isD_a ?_
    rw [W.1.2.1]
    refine ⟨fun q => ⟨fun _ => bad (by omega), fun q => absurd rfl q⟩, fun q1 => ⟨fun q => ⟨fun _ => bad (by omega), fun q => absurd rfl q⟩, fun q2 => ⟨fun q => ⟨fun _ => bad (by omega), fun q => absurd rfl q⟩, fun q3 => ⟨fun q => ⟨fun _ => bad (by omega), fun q => absurd rfl q⟩, fun q4 => ⟨fun q => absurd q (by decide), fun _ => ?_⟩⟩⟩⟩⟩
    refine e_X0_hasPoint hS isD_a ?_
    rw [W.1.2.1]
    refine ⟨fun q => ⟨fun _ => bad (by omega), fun q => absurd rfl q⟩, fun q5 => ⟨fun q => ⟨fun _ => bad (by omega), fun q => absurd rfl q⟩, fun q6 => ⟨fun q => ⟨fun _ => bad (by omega), fun q => absurd rfl q⟩, fun q7 => ⟨fun q => ⟨fun _ => bad (by omega), fun q => absurd rfl q⟩, fun q8 => ⟨fun q => absurd q (by decide), fun _ => ?_⟩⟩⟩⟩⟩
    refine ⟨fun q => good (by omega), fun q => ⟨fun q9 => good (by omega), fun q9 => bad (by omega)⟩⟩
  · unfold why at hQ
    rw [if_pos (dr_f (h.nd c))] at hQ; exact hQ
theorem why_in (M : Ms) (x y u v : Int) : why M x y u v = 0 ∨ why M x y u v = 1 ∨ why M x y u v = 2 ∨ why M x y u v = 3 := by
  unfold why
  by_cases a : M.dr = false
  · rw [if_pos a]; omega
  · rw [if_neg a]
    by_cases b : (0 ≤ x ∧ x ≤ M.D.sz ∧ 0 ≤ y ∧ y ≤ M.D.sz) ∧ (0 ≤ u ∧ u ≤ M.D.sz ∧ 0 ≤ v ∧ v ≤ M.D.sz) ∧ ¬ (x = u ∧ y = v)
    · rw [if_pos b]
      by_cases c : M.D.n < 24
      · rw [if_pos c]; omega
      · rw [if_neg c]; omega
    · rw [if_neg b]; omega
theorem why_0 {x y u v : Int} (h : why M x y u v = 0) : M.dr = true ∧ (0 ≤ x ∧ x ≤ M.D.sz) ∧ (0 ≤ y ∧ y ≤ M.D.sz) ∧ (0 ≤ u ∧ u ≤ M.D.sz) ∧ (0 ≤ v ∧ v ≤ M.D.sz) ∧ M.D.n < 24 := by
  unfold why at h
  by_cases a : M.dr = false
  · rw [if_pos a] at h; omega
  · rw [if_neg a] at h
    by_cases b : (0 ≤ x ∧ x ≤ M.D.sz ∧ 0 ≤ y ∧ y ≤ M.D.sz) ∧ (0 ≤ u ∧ u ≤ M.D.sz ∧ 0 ≤ v ∧ v ≤ M.D.sz) ∧ ¬ (x = u ∧ y = v)
    · rw [if_pos b] at h
      by_cases c : M.D.n < 24
      · refine ⟨?_, by omega, by omega, by omega, by omega, c⟩
        cases e : M.dr with
        | true => rfl
        | false => exact absurd e a
      · rw [if_neg c] at h; omega
    · rw [if_neg b] at h; omega
theorem c_would {x y u v : Int} (hS : SHP S) : CS S mX10_would [vR 1, vI x, vI y, vI u, vI v] M (A_would M x y u v) := fun σ Q h hQ => by
  unfold A_would at hQ
  refine e_X10_would hS (c_why hS h ⟨fun c => ?_, fun c => ?_⟩)
  · rw [if_pos c] at hQ
    obtain ⟨d, b1, b2, b3, b4, b5⟩ := why_0 c
    have W := h.w d
    have ho := W.2.1.1
    refine sp_dcopy hS isD_o isD_a (by omega) W.1 ho.1 ?_
    intro σ1 d1 f1
    refine sp_dput (x := x) (y := y) (u := u) (v := v) hS isD_o d1 b5 ?_
    intro σ2 d2 f2
    have F2 : frR 106 122 σ σ2 := (f1.R (by simp)).trans (f2.R (by simp))
    have h2 := h.o F2
    rw [(h2.w d).1.2.2.1]
    have ho2 : okDw (addD M.D x y u v) := ho.add b5 b1 b2 b3 b4
    refine sp_other hS d2 ho2 ho.2.2.1.1 ho.2.2.1.2 ?_
    intro σ3 f3
    have F3 : frR 106 122 σ σ3 := F2.trans (f3.mono (by omega) (by omega))
    have h3 := h.o F3
    have e9 : σ3 40 9 = (M.T.length : Int) := (h3.w d).2.2.2.2.2.1.1
    have l1 := tn_le (j := M.D.jo) ho2
    have l2 : M.T.length ≤ 24 := ho.l
    rw [e9]
    exact ⟨inR_s (by omega) (by omega), c_told hS h3 (F3.mono (by omega) (by omega)) hQ⟩
  · rw [if_neg c] at hQ
    have := why_in M x y u v
    exact e_X10_refused hS (hQ _ (h.t (by omega)) (frR.rf.put (by omega) (by omega)))
theorem fewest_le (g : Nat → Nat) : ∀ n, fewest g n ≤ n
  | 0 => Nat.le_refl _
  | n + 1 => by unfold fewest; have := fewest_le g n; split <;> omega
/-- what is known on the way: too little up to lo, enough from lo + w on -/
def LJ (σ : StT) (D : Dw) (m lo w : Int) (σ' : StT) : Prop := frR 110 122 σ σ' ∧ -1 ≤ lo ∧ lo ≤ 50 ∧ (∀ v : Nat, (v : Int) ≤ lo → m < (tn D v : Int)) ∧ ∀ v : Nat, lo + w ≤ (v : Int) → v ≤ 50 → (tn D v : Int) ≤ m
theorem lj_step {m s s' w : Int} (hS : SHP S) (h : cD σ 106 D) (ho : okDw D) (hs : s / 2 = s') (hw : s + s = w) (s1 : 1 ≤ s) (s2 : s ≤ 32) (ih : ∀ lo σ', LJ σ D m lo s σ' → AWs mX10_leastJoinFor 5 [(0, vR 1), (1, vI m), (2, vI lo), (3, vI s')] [] S σ' Q) : ∀ lo σ', LJ σ D m lo w σ' → AWs mX10_leastJoinFor 5 [(0, vR 1), (1, vI m), (2, vI lo), (3, vI s)] [] S σ' Q := by
  intro lo σ' ⟨F, l1, l2, a1, a2⟩
  subst hs
  subst hw
  have d1 : cD σ' 106 D := h.ext (fun j => F _ (by omega) j) (fun j => F _ (by omega) j) (fun j => F _ (by omega) j)
  refine t_X10_leastJoinFor_5 hS ⟨fun q => absurd q (by omega), fun _ => ⟨inR_s (by omega) (by omega), fun q => ⟨by omega, ih lo σ' ⟨F, l1, l2, a1, fun v h1 h2 => by omega⟩⟩, fun q => ?_⟩⟩
  obtain ⟨t, ht⟩ := nat_of (show 0 ≤ lo + s by omega)
  rw [ht]
  refine sp_other hS d1 ho (by omega) (by omega) (fun σ4 f4 => ⟨fun q2 => ⟨by omega, ih lo σ4 ⟨F.trans f4, l1, l2, a1, fun v h1 h2 => ?_⟩⟩, fun q2 => ⟨by omega, ih t σ4 ⟨F.trans f4, by omega, by omega, fun v hv => ?_, fun v h1 h2 => ?_⟩⟩⟩)
  · have q3 : (tn D (t : Int) : Int) ≤ m := q2
    have := tn_anti (D := D) (i := (t : Int)) (j := (v : Int)) (by omega)
    omega
  · have q3 : ¬ (tn D (t : Int) : Int) ≤ m := q2
    have := tn_anti (D := D) (i := (v : Int)) (j := (t : Int)) (by omega)
    omega
  · exact a2 v (by omega) h2
theorem sp_leastJoinFor {m : Int} (hS : SHP S) (h : cD σ 106 D) (ho : okDw D) (hQ : ∀ (r : Nat) (σ' : StT), frR 110 122 σ σ' → r ≤ 51 → (∀ v : Nat, v < r → m < (tn D v : Int)) → (∀ v : Nat, r ≤ v → v ≤ 50 → (tn D v : Int) ≤ m) → Q (r : Int) σ') : WPs mX10_leastJoinFor [vR 1, vI m] S σ Q := by
  have h0 : ∀ lo σ', LJ σ D m lo 1 σ' → AWs mX10_leastJoinFor 5 [(0, vR 1), (1, vI m), (2, vI lo), (3, vI 0)] [] S σ' Q := by
    intro lo σ' ⟨F, l1, l2, a1, a2⟩
    refine t_X10_leastJoinFor_5 hS ⟨fun _ => ⟨inR_s (by omega) (by omega), ?_⟩, fun q => absurd (Int.le_refl 0) q⟩
    obtain ⟨t, ht⟩ := nat_of (show 0 ≤ lo + 1 by omega)
    rw [ht]
    exact hQ t σ' F (by omega) (fun v hv => a1 v (by omega)) (fun v h1 h2 => a2 v (by omega) h2)
  have h1 := lj_step (s := 1) (w := 2) hS h ho (by decide) (by decide) (by decide) (by decide) h0
  have h2 := lj_step (s := 2) (w := 4) hS h ho (by decide) (by decide) (by decide) (by decide) h1
  have h4 := lj_step (s := 4) (w := 8) hS h ho (by decide) (by decide) (by decide) (by decide) h2
  have h8 := lj_step (s := 8) (w := 16) hS h ho (by decide) (by decide) (by decide) (by decide) h4
  have h16 := lj_step (s := 16) (w := 32) hS h ho (by decide) (by decide) (by decide) (by decide) h8
  have h32 := lj_step (s := 32) (w := 64) hS h ho (by decide) (by decide) (by decide) (by decide) h16
  exact e_X10_leastJoinFor hS (h32 (-1) σ ⟨frR.rf, by omega, by omega, fun v hv => by omega, fun v k1 k2 => by omega⟩)
theorem c_nearest (hS : SHP S) : CS S mX10_nearest [vR 1] M (A_nearest M) := fun σ Q h hQ => by
  unfold A_nearest at hQ
  refine e_X10_nearest hS ⟨fun c => ?_, fun c => ?_⟩
  · have d := h.d c
    have W := h.w d
    have ho := W.2.1.1
    rw [if_pos d] at hQ
    refine sp_dcopy hS isD_o isD_a (by omega) W.1 ho.1 ?_
    intro σ1 d1 f1
    have F1 : frR 106 122 σ σ1 := f1.R (by simp)
    refine sp_other hS d1 ho (by omega) (by omega) ?_
    intro σ2 f2
    have d2 : cD σ2 106 M.D := d1.ext (fun j => f2 _ (by omega) j) (fun j => f2 _ (by omega) j) (fun j => f2 _ (by omega) j)
    refine sp_leastJoinFor hS d2 ho ?_
    intro r σ3 f3 r1 a1 a2
    have F3 : frR 106 122 σ σ3 := (F1.trans (f2.mono (by omega) (by omega))).trans (f3.mono (by omega) (by omega))
    have r2 : r ≤ 50 := by
      by_cases e : r = 51
      · exfalso
        have h1 : (tn M.D 50 : Int) < (tn M.D 50 : Int) := a1 50 (by omega)
        omega
      · omega
    have b1 := a2 r (Nat.le_refl _) r2
    have e : fewest (fun v => tn M.D v) 50 = r := fewest_is r2 (fun v hv => by
      have h1 := a1 v hv
      show tn M.D (r : Int) < tn M.D (v : Int)
      omega) (fun v hv => by
      have h1 := tn_anti (D := M.D) (i := (v : Int)) (j := 50) (by omega)
      show tn M.D (r : Int) ≤ tn M.D (v : Int)
      omega)
    rw [e] at hQ
    exact c_told hS (h.o F3) (F3.mono (by omega) (by omega)) hQ
  · rw [if_neg (h.nd c)] at hQ; exact c_ref hS h frR.rf (by omega) hQ
theorem c_enough {n : Int} (hS : SHP S) : CS S mX10_enough [vR 1, vI n] M (A_enough M n) := fun σ Q h hQ => by
  unfold A_enough at hQ
  refine e_X10_enough hS ⟨fun c => ?_, fun c => ?_⟩
  · have d := h.d c
    have W := h.w d
    have ho := W.2.1.1
    rw [if_pos d] at hQ
    have ref : ¬ (1 ≤ n ∧ n ≤ 24) → WPs mX10_refused [vR 1, vI 2] S σ Q := fun z => by
      rw [if_neg z] at hQ; exact c_ref hS h frR.rf (by omega) hQ
    refine ⟨fun q => ref (by omega), fun q => ⟨fun q1 => ?_, fun q1 => ref (by omega)⟩⟩
    rw [if_pos ⟨by omega, q1⟩] at hQ
    refine sp_dcopy hS isD_o isD_a (by omega) W.1 ho.1 ?_
    intro σ1 d1 f1
    have F1 : frR 106 122 σ σ1 := f1.R (by simp)
    refine sp_leastJoinFor hS d1 ho ?_
    intro r σ3 f3 r1 a1 a2
    have F3 : frR 106 122 σ σ3 := F1.trans (f3.mono (by omega) (by omega))
    refine ⟨fun q2 => ?_, fun q2 => ?_⟩
    · have b1 := a2 r (Nat.le_refl _) (by omega)
      rw [fst1_is (x := r) (by omega) (by simp; omega) (fun v hv => by have := a1 v hv; simp; omega)] at hQ
      exact c_told hS (h.o F3) (F3.mono (by omega) (by omega)) hQ
    · rw [fst1_no (fun v hv => by have := a1 v (by omega); simp; omega)] at hQ
      exact c_told hS (h.o F3) (F3.mono (by omega) (by omega)) hQ
  · rw [if_neg (h.nd c)] at hQ; exact c_ref hS h frR.rf (by omega) hQ
theorem c_worst (hS : SHP S) : CS S mX10_worst [vR 1] M (A_worst M) := fun σ Q h hQ => by
  unfold A_worst at hQ
  refine e_X10_worst hS ⟨fun c => ?_, fun c => ?_⟩
  · have d := h.d c
    have W := h.w d
    have ho := W.2.1.1
    have hn := ho.1
    rw [if_pos d] at hQ
    refine lupg (α := Int × Int × StT) (I := fun i x => 0 ≤ i ∧ i ≤ (M.D.n : Int) ∧ frR 106 122 σ x.2.2 ∧ (i = 0 → x.1 = -2) ∧ (0 < i → x.1 = (fewest (fun s => tn (dropD M.D s) M.D.jo) (i.toNat - 1) : Int) ∧ x.2.1 = (tn (dropD M.D (fewest (fun s => tn (dropD M.D s) M.D.jo) (i.toNat - 1))) M.D.jo : Int))) (W := fun i x => AWs mX10_worst 20 [(0, vR 1), (1, vI x.1), (2, vI x.2.1), (3, vI i)] [] S x.2.2 Q) (M.D.n : Int) ?_ ?_ 0 (-2, 0, σ) ⟨by omega, by omega, frR.rf, fun _ => rfl, fun q => by omega⟩
    · rintro i ⟨a, b, σ3⟩ ⟨i0, i1, F3, e0, e1⟩ hge
      have ei : i = (M.D.n : Int) := by omega
      subst ei
      simp only at F3
      have h3 := h.o F3
      refine t_X10_worst_20 hS ?_
      simp only
      rw [(h3.w d).1.1]
      refine ⟨fun _ => ?_, fun q => absurd hge q⟩
      by_cases z : M.D.n = 0
      · rw [if_pos z] at hQ
        have e0 := e0 (by omega)
        simp only at e0
        rw [e0]
        exact c_told hS h3 (F3.mono (by omega) (by omega)) hQ
      · rw [if_neg z] at hQ
        have e1 := (e1 (by omega)).1
        rw [tn_cast] at e1
        simp only at e1
        rw [e1]
        exact c_told hS h3 (F3.mono (by omega) (by omega)) hQ
    · rintro i ⟨a, b, σ3⟩ ⟨i0, i1, F3, e0, e1⟩ hlt kk
      obtain ⟨i, rfl⟩ := nat_of i0
      simp only at F3 e0 e1
      have h3 := h.o F3
      refine t_X10_worst_20 hS ?_
      simp only
      rw [(h3.w d).1.1]
      refine ⟨fun q => absurd q (by omega), fun _ => sp_dcopy hS isD_o isD_a (by omega) (h3.w d).1 hn ?_⟩
      intro σ4 d4 f4
      refine sp_ddrop hS isD_o d4 hn (by omega) ?_
      intro σ5 d5 f5
      have F5 : frR 106 122 σ σ5 := (F3.trans (f4.R (by simp))).trans (f5.R (by simp))
      rw [((h.o F5).w d).1.2.2.1]
      refine sp_other hS d5 (ho.drop (by omega)) ho.2.2.1.1 ho.2.2.1.2 ?_
      intro σ6 f6
      have F6 : frR 106 122 σ σ6 := F5.trans (f6.mono (by omega) (by omega))
      have new : (i = 0 ∨ fewest (fun s => tn (dropD M.D s) M.D.jo) i = i) → inR ((i : Int) + 1) ∧ AWs mX10_worst 20 [(0, vR 1), (1, vI (i : Int)), (2, vI (tn (dropD M.D i) M.D.jo : Int)), (3, vI ((i : Int) + 1))] [] S σ6 Q := fun hz => by
        have ef : fewest (fun s => tn (dropD M.D s) M.D.jo) i = i := by
          rcases hz with z | z
          · subst z; rfl
          · exact z
        exact ⟨inR_s (by omega) (by omega), kk ((i : Int), (tn (dropD M.D i) M.D.jo : Int), σ6) ⟨by omega, by omega, F6, fun q => by omega, fun _ => ⟨by rw [show ((i : Int) + 1).toNat - 1 = i by omega, ef], by rw [show ((i : Int) + 1).toNat - 1 = i by omega, ef]⟩⟩⟩
      by_cases z : i = 0
      · have := e0 (by omega)
        exact ⟨fun _ => new (Or.inl z), fun q => absurd this q⟩
      · obtain ⟨k, rfl⟩ : ∃ k, i = k + 1 := ⟨i - 1, by omega⟩
        obtain ⟨e1, e2⟩ := e1 (by omega)
        rw [tn_cast, show k + 1 - 1 = k by omega] at e1 e2
        have hs : fewest (fun s => tn (dropD M.D s) M.D.jo) (k + 1) = if tn (dropD M.D (k + 1)) M.D.jo < tn (dropD M.D (fewest (fun s => tn (dropD M.D s) M.D.jo) k)) M.D.jo then k + 1 else fewest (fun s => tn (dropD M.D s) M.D.jo) k := rfl
        refine ⟨fun q => by omega, fun _ => ⟨fun q => ⟨inR_s (by omega) (by omega), kk (a, b, σ6) ⟨by omega, by omega, F6, fun q => by omega, fun _ => ?_⟩⟩, fun q => new (Or.inr ?_)⟩⟩
        · rw [show (((k + 1 : Nat) : Int) + 1).toNat - 1 = k + 1 by omega, hs, if_neg (by omega)]; exact ⟨e1, e2⟩
        · rw [hs, if_pos (by omega)]
  · rw [if_neg (h.nd c)] at hQ; exact c_ref hS h frR.rf (by omega) hQ
end TOPE
