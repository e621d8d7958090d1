/-! the class's calls: acts -/
section TOPF
variable {S : ShT} {σ σ1 : StT} {Q : Int → StT → Prop} {M : Ms} {D : Dw} {N : Nat} {f : Nat → Nat} {L : Hs}
theorem cT.act (h : cT σ M) (hd : M.dr = true) (F : ∀ b, (b = 1 ∨ b = 2 ∨ b = 3 ∨ b = 124) → ∀ j, σ1 b j = σ b j) (hH : atH σ1 L) (hL : ∀ i, i < L.length → okE (hg L i).1 (hg L i).2.1 (hg L i).2.2) (hz : z30 σ1) (hW : cW σ1 D N f) : cT (up2 σ1 1 13 0) (M.w D N f L) := by
  obtain ⟨h0, h1, h2, h3, h4, h5, h6, h7, h8, h9⟩ := h
  have F1 : frR 1 2 σ1 (up2 σ1 1 13 0) := frR.rf.put (by omega) (by omega)
  refine ⟨⟨h0.1, fun _ => hW.2.1, hL, hH.2.1, fun q => absurd (show true = false from q) (by decide), Or.inl rfl⟩, by rw [F1 2 (by omega), F 2 (by omega)]; exact h1, fun x hx => by rw [F1 3 (by omega), F 3 (by omega)]; exact h2 x hx, by rw [up2_i (by decide), F 1 (by omega), h3, hd]; rfl, up2_s _ _ _ _, by rw [F1 124 (by omega), F 124 (by omega)]; exact h5, fun q => absurd (show (0 : Int) = 4 from q) (by decide), hH.ext F1 (by omega), fun u hu => by rw [F1 30 (by omega)]; exact hz u hu, fun _ => hW.ext (fun b b1 b2 b3 b4 j => F1 b (by omega) j)⟩
theorem okM.k (h : okM M) (hd : M.dr = true) : ∀ i, i < M.k.length → okE (hg M.k i).1 (hg M.k i).2.1 (hg M.k i).2.2 := by
  intro i hi
  have hl : M.k.length = min (M.L.length + 1) 10 := hk1_len
  cases i with
  | zero => exact h.2.1 hd
  | succ i =>
    have : hg M.k (i + 1) = hg M.L i := hk1_s (by omega)
    rw [this]
    exact h.2.2.1 i (by omega)
/-- what was is kept -/
theorem c_keep (hS : SHP S) (h : cT σ M) (hd : M.dr = true) (hQ : ∀ σ' : StT, atH σ' M.k → frR 53 106 σ σ' → cW σ' M.D M.N M.f → z30 σ' → Q 0 σ') : WPs mX2_keep [vR 53, vR 4, vR 51] S σ Q := by
  have W := h.w hd
  refine sp_keep hS h.2.2.2.2.2.2.2.1 W.1 W.2.1.1.1 W.2.2.2.2.2.2 W.2.1.2.2.1 ?_
  intro σ' a F
  exact hQ σ' a F (W.ext (fun b b1 b2 b3 b4 j => F b (by omega) j)) (fun u hu => by rw [F 30 (by omega)]; exact h.2.2.2.2.2.2.2.2.1 u hu)
theorem gG_home (D : Dw) (x y : Int) : gG (homeD D x y) = gG D := rfl
theorem gG_pace (D : Dw) (x y : Int) : gG (paceD D x y) = gG D := rfl
theorem TT_home (D : Dw) (x y : Int) : TT (homeD D x y) = TT D := rfl
theorem TT_pace (D : Dw) (x y : Int) : TT (paceD D x y) = TT D := rfl
theorem c_add {x y u v : Int} (hS : SHP S) : CS S mX10_add [vR 1, vI x, vI y, vI u, vI v] M (A_add M x y u v) := fun σ Q h hQ => by
  unfold A_add at hQ
  refine e_X10_add hS (c_why hS h ⟨fun c => ?_, fun c => ?_⟩)
  · rw [if_pos c] at hQ
    obtain ⟨d, b1, b2, b3, b4, b5⟩ := why_0 c
    refine c_keep hS h d ?_
    intro σ1 k1 f1 W1 z1
    have ho := W1.2.1.1
    refine sp_dput (x := x) (y := y) (u := u) (v := v) hS isD_a W1.1 b5 ?_
    intro σ2 d2 f2
    have ho2 : okDw (addD M.D x y u v) := ho.add b5 b1 b2 b3 b4
    refine sp_startPlan hS d2 ho2 (fun u hu => by rw [f2 30 (by decide)]; exact z1 u hu) ?_
    intro σ3 W3 z3 f3
    rw [W3.1.1]
    refine e_X10_told hS (hQ _ (h.act d (fun b hb j => by rw [f3 b (by omega), f2 b (by simp; omega), f1 b (by omega)]) ((k1.ext (lo := 4) (hi := 7) (f2.R (by simp)) (by omega)).ext f3 (by omega)) (h.1.k d) z3 W3) ?_)
    exact (((f1.mono (by omega) (by omega)).trans (f2.R (by simp))).trans (f3.mono (by omega) (by omega))).put (by omega) (by omega)
  · rw [if_neg c] at hQ
    have := why_in M x y u v
    exact c_ref hS h frR.rf (by omega) hQ
theorem c_drop {s : Int} (hS : SHP S) : CS S mX10_drop [vR 1, vI s] M (A_drop M s) := fun σ Q h hQ => by
  unfold A_drop at hQ
  refine e_X10_drop hS (c_hasStroke hS h (fun d s0 s1 => ⟨fun _ => ?_, fun q => absurd q (by decide)⟩) (fun c => ⟨fun q => absurd rfl q, fun _ => ?_⟩))
  · rw [if_pos ⟨d, s0, s1⟩] at hQ
    obtain ⟨s, rfl⟩ := nat_of s0
    rw [tn_cast] at hQ
    refine c_keep hS h d ?_
    intro σ1 k1 f1 W1 z1
    have ho := W1.2.1.1
    refine sp_ddrop (s := s) hS isD_a W1.1 ho.1 (by omega) ?_
    intro σ2 d2 f2
    have ho2 : okDw (dropD M.D s) := ho.drop (by omega)
    refine sp_startPlan hS d2 ho2 (fun u hu => by rw [f2 30 (by decide)]; exact z1 u hu) ?_
    intro σ3 W3 z3 f3
    rw [W3.1.1]
    refine e_X10_told hS (hQ _ (h.act d (fun b hb j => by rw [f3 b (by omega), f2 b (by simp; omega), f1 b (by omega)]) ((k1.ext (lo := 4) (hi := 7) (f2.R (by simp)) (by omega)).ext f3 (by omega)) (h.1.k d) z3 W3) ?_)
    exact (((f1.mono (by omega) (by omega)).trans (f2.R (by simp))).trans (f3.mono (by omega) (by omega))).put (by omega) (by omega)
  · rw [if_neg c] at hQ
    exact c_ref hS h frR.rf (by omega) hQ
theorem c_home {x y : Int} (hS : SHP S) : CS S mX10_home [vR 1, vI x, vI y] M (A_home M x y) := fun σ Q h hQ => by
  unfold A_home at hQ
  refine e_X10_home hS ⟨fun c => ?_, fun c => ?_⟩
  · have d := h.d c
    have W := h.w d
    rw [if_pos d] at hQ
    have ref : ¬ (0 ≤ x ∧ x ≤ M.D.sz ∧ 0 ≤ y ∧ y ≤ M.D.sz) → WPs mX10_refused [vR 1, vI 2] S σ Q := fun z => by
      rw [if_neg z] at hQ; exact c_ref hS h frR.rf (by omega) hQ
    refine e_X0_hasPoint hS isD_a ?_
    rw [W.1.2.1]
    refine ⟨fun q => ⟨fun q => absurd rfl q, fun _ => ref (by omega)⟩, fun q1 => ⟨fun q => ⟨fun q => absurd rfl q, fun _ => ref (by omega)⟩, fun q2 => ⟨fun q => ⟨fun q => absurd rfl q, fun _ => ref (by omega)⟩, fun q3 => ⟨fun q => ⟨fun q => absurd rfl q, fun _ => ref (by omega)⟩, fun q4 => ⟨fun _ => ?_, fun q => absurd q (by decide)⟩⟩⟩⟩⟩
    rw [if_pos (by omega)] at hQ
    refine c_keep hS h d ?_
    intro σ1 k1 f1 W1 z1
    obtain ⟨⟨a1, a2, a3, a4, a5, a6, a7, a8⟩, ⟨o1, o2, o3⟩, m1, r1, w1, t1, p1⟩ := W1
    have F2 : frR 4 5 σ1 (up2 (up2 σ1 4 5 x) 4 6 y) := (frR.rf.put (by omega) (by omega)).put (by omega) (by omega)
    obtain ⟨k1', k2, k3, k4, k5, k6, k7, k8⟩ := o1
    have ho2 : okDw (homeD M.D x y) := ⟨k1', k2, k3, ⟨by show 0 ≤ x; omega, by show x ≤ M.D.sz; omega⟩, ⟨by show 0 ≤ y; omega, by show y ≤ M.D.sz; omega⟩, k6, k7, k8⟩
    have W2 : cW (up2 (up2 σ1 4 5 x) 4 6 y) (homeD M.D x y) M.N M.f := by
      refine ⟨⟨?_, ?_, ?_, ?_, ?_, ?_, ?_, fun e he => ?_⟩, ⟨ho2, o2, o3⟩, m1.ext (fun b b1 b2 j => F2 b (by omega) j), r1.ext (fun b b1 b2 j => F2 b (by omega) j), w1.ext (fun j => F2 33 (by omega) j) (fun j => F2 32 (by omega) j), t1.ext (F2 40 (by omega) 9) (F2 40 (by omega) 12) (fun b b1 b2 j => F2 b (by omega) j), p1.ext (F2 51 (by omega) 4) (fun j => F2 52 (by omega) j)⟩
      · rw [up2_i (by decide), up2_i (by decide)]; exact a1
      · rw [up2_i (by decide), up2_i (by decide)]; exact a2
      · rw [up2_i (by decide), up2_i (by decide)]; exact a3
      · rw [up2_i (by decide), up2_s]; rfl
      · rw [up2_s]; rfl
      · rw [up2_i (by decide), up2_i (by decide)]; exact a6
      · rw [up2_i (by decide), up2_i (by decide)]; exact a7
      · rw [F2 _ (by omega), F2 _ (by omega)]; exact a8 e he
    refine sp_wholeTravel hS isP_a W2.wP W2.2.2.2.2.2.2 W2.2.1.2.2 ?_
    refine e_X10_told hS (hQ _ (h.act d (fun b hb j => by rw [F2 b (by omega), f1 b (by omega)]) (k1.ext F2 (by omega)) (h.1.k d) (fun u hu => by rw [F2 30 (by omega)]; exact z1 u hu) W2) ?_)
    exact ((f1.mono (by omega) (by omega)).trans (F2.mono (by omega) (by omega))).put (by omega) (by omega)
  · rw [if_neg (h.nd c)] at hQ; exact c_ref hS h frR.rf (by omega) hQ
theorem c_pace {x y : Int} (hS : SHP S) : CS S mX10_pace [vR 1, vI x, vI y] M (A_pace M x y) := fun σ Q h hQ => by
  unfold A_pace at hQ
  refine e_X10_pace hS ⟨fun c => ?_, fun c => ?_⟩
  · have d := h.d c
    rw [if_pos d] at hQ
    have ref : ¬ ((1 ≤ x ∧ x ≤ 9) ∧ (1 ≤ y ∧ y ≤ 9)) → WPs mX10_refused [vR 1, vI 2] S σ Q := fun z => by
      rw [if_neg z] at hQ; exact c_ref hS h frR.rf (by omega) hQ
    refine e_X10_isPace hS ⟨fun q => ⟨fun _ => ref (by omega), fun q => absurd rfl q⟩, fun q1 => ⟨fun q => ⟨fun _ => ref (by omega), fun q => absurd rfl q⟩, fun q2 => ⟨fun q => absurd q (by decide), fun _ => ?_⟩⟩⟩
    refine e_X10_isPace hS ⟨fun q => ⟨fun q => absurd rfl q, fun _ => ref (by omega)⟩, fun q3 => ⟨fun q => ⟨fun q => absurd rfl q, fun _ => ref (by omega)⟩, fun q4 => ⟨fun _ => ?_, fun q => absurd q (by decide)⟩⟩⟩
    rw [if_pos (by omega)] at hQ
    refine c_keep hS h d ?_
    intro σ1 k1 f1 W1 z1
    obtain ⟨⟨a1, a2, a3, a4, a5, a6, a7, a8⟩, ⟨o1, o2, o3⟩, m1, r1, w1, t1, p1⟩ := W1
    have F2 : frR 4 5 σ1 (up2 (up2 σ1 4 7 x) 4 8 y) := (frR.rf.put (by omega) (by omega)).put (by omega) (by omega)
    obtain ⟨k1', k2, k3, k4, k5, k6, k7, k8⟩ := o1
    have ho2 : okDw (paceD M.D x y) := ⟨k1', k2, k3, k4, k5, ⟨by show 1 ≤ x; omega, by show x ≤ 9; omega⟩, ⟨by show 1 ≤ y; omega, by show y ≤ 9; omega⟩, k8⟩
    have W2 : cW (up2 (up2 σ1 4 7 x) 4 8 y) (paceD M.D x y) M.N M.f := by
      refine ⟨⟨?_, ?_, ?_, ?_, ?_, ?_, ?_, fun e he => ?_⟩, ⟨ho2, o2, o3⟩, m1.ext (fun b b1 b2 j => F2 b (by omega) j), r1.ext (fun b b1 b2 j => F2 b (by omega) j), w1.ext (fun j => F2 33 (by omega) j) (fun j => F2 32 (by omega) j), t1.ext (F2 40 (by omega) 9) (F2 40 (by omega) 12) (fun b b1 b2 j => F2 b (by omega) j), p1.ext (F2 51 (by omega) 4) (fun j => F2 52 (by omega) j)⟩
      · rw [up2_i (by decide), up2_i (by decide)]; exact a1
      · rw [up2_i (by decide), up2_i (by decide)]; exact a2
      · rw [up2_i (by decide), up2_i (by decide)]; exact a3
      · rw [up2_i (by decide), up2_i (by decide)]; exact a4
      · rw [up2_i (by decide), up2_i (by decide)]; exact a5
      · rw [up2_i (by decide), up2_s]; rfl
      · rw [up2_s]; rfl
      · rw [F2 _ (by omega), F2 _ (by omega)]; exact a8 e he
    refine sp_wholeTime (dn := x) (up := y) hS isP_a W2.wP W2.2.2.2.2.2.2 W2.2.1.2.2 W2.1.2.2.2.2.2.1 W2.1.2.2.2.2.2.2.1 (by omega) (by omega) (by omega) (by omega) ?_
    refine e_X10_told hS (hQ _ (h.act d (fun b hb j => by rw [F2 b (by omega), f1 b (by omega)]) (k1.ext F2 (by omega)) (h.1.k d) (fun u hu => by rw [F2 30 (by omega)]; exact z1 u hu) W2) ?_)
    exact ((f1.mono (by omega) (by omega)).trans (F2.mono (by omega) (by omega))).put (by omega) (by omega)
  · rw [if_neg (h.nd c)] at hQ; exact c_ref hS h frR.rf (by omega) hQ
end TOPF
