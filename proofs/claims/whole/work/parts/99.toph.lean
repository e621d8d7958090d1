/-! the class's calls: feed, sheet -/
section TOPH
variable {S : ShT} {σ σ1 : StT} {Q : Int → StT → Prop} {M : Ms}
def byt (v : Int) (k : Nat) : Int := iAnd (iShr v (24 - 8 * (k : Int))) 255
theorem sp_put {v : Int} {t : Nat} (hS : SHP S) (h1 : σ 2 1 = t) (ht : t + 4 ≤ 700) (hQ : ∀ σ' : StT, σ' 2 1 = ((t + 4 : Nat) : Int) → (∀ k, k < 4 → σ' 3 (t + k) = byt v k) → (∀ x, x < t → σ' 3 x = σ 3 x) → fr [2, 3] σ σ' → (∀ j, j ≠ 1 → σ' 2 j = σ 2 j) → Q 0 σ') : WPs mX7_put [vR 2, vI v] S σ Q := by
  refine e_X7_put hS ?_
  have key : ∀ (r k : Nat) (σ1 : StT), r + k = 4 → σ1 2 1 = ((t + k : Nat) : Int) → (∀ j, j < k → σ1 3 (t + j) = byt v j) → (∀ x, x < t → σ1 3 x = σ 3 x) → fr [2, 3] σ σ1 → (∀ j, j ≠ 1 → σ1 2 j = σ 2 j) → AWs mX7_put 3 [(0, vR 2), (1, vI v), (2, vI (24 - 8 * (k : Int)))] [] S σ1 Q := by
    intro r
    induction r with
    | zero =>
      intro k σ1 hk e1 e2 e3 F e4
      have ek : k = 4 := by omega
      subst ek
      exact t_X7_put_3 hS ⟨fun _ => hQ σ1 e1 e2 e3 F e4, fun q => absurd (by omega) q⟩
    | succ r ih =>
      intro k σ1 hk e1 e2 e3 F e4
      refine t_X7_put_3 hS ⟨fun q => absurd q (by omega), fun _ => ?_⟩
      rw [e1, tn_cast]
      refine ⟨fun q => absurd q (by omega), fun _ => ⟨⟨by omega, by omega⟩, inR_s (by omega) (by omega), inR_s (by omega) (by omega), ?_⟩⟩
      rw [show 24 - 8 * (k : Int) + -8 = 24 - 8 * ((k + 1 : Nat) : Int) by omega]
      refine ih (k + 1) _ (by omega) (by rw [up2_s]; rfl) (fun j hj => ?_) (fun x hx => ?_) ((F.put (by simp)).put (by simp)) (fun j hj => ?_)
      · rw [up2_a (by decide)]
        by_cases e : j = k
        · subst e; rw [up2_s]; rfl
        · rw [up2_i (by omega)]; exact e2 j (by omega)
      · rw [up2_a (by decide), up2_i (by omega)]; exact e3 x hx
      · rw [up2_i hj, up2_a (by decide)]; exact e4 j hj
  exact key 4 0 σ rfl h1 (fun j hj => by omega) (fun x _ => rfl) fr.rf (fun j _ => rfl)
theorem by5_at {a b c d e : Int} {w k : Nat} (hk : k < 4) : by5 a b c d e (4 * w + k) = byt (if w = 0 then a else if w = 1 then b else if w = 2 then c else if w = 3 then d else e) k := by
  unfold by5 byt
  rw [show (4 * w + k) / 4 = w by omega, show (4 * w + k) % 4 = k by omega]
/-- the tape alone has grown -/
theorem cT.fd {t : Nat} {tb : Nat → Int} (h : cT σ M) (h1 : σ1 2 1 = t) (ht : t ≤ 700) (hb : ∀ x, x < t → σ1 3 x = tb x) (hf : fr [2, 3] σ σ1) : cT σ1 ((t, tb), M.2) := by
  obtain ⟨h0, -, -, h3, h4, h5, h6, h7, h8, h9⟩ := h
  have F : frR 2 4 σ σ1 := hf.R (by simp)
  exact ⟨⟨ht, h0.2⟩, h1, hb, by rw [F 1 (by omega)]; exact h3, by rw [F 1 (by omega)]; exact h4, by rw [F 124 (by omega)]; exact h5, fun q => by rw [F 124 (by omega)]; exact h6 q, h7.ext F (by omega), fun u hu => by rw [F 30 (by omega)]; exact h8 u hu, fun q => (h9 q).ext (fun b b1 b2 b3 b4 j => F b (by omega) j)⟩
theorem c_feed {a b c d e : Int} (hS : SHP S) : CS S mX10_feed [vR 1, vI a, vI b, vI c, vI d, vI e] M (A_feed M a b c d e) := fun σ Q h hQ => by
  unfold A_feed at hQ
  have h1 := h.2.1
  refine e_X10_feed hS (e_X7_hasRoom hS ?_)
  rw [h1]
  refine ⟨fun q => ⟨fun q2 => absurd rfl q2, fun _ => ?_⟩, fun q => ⟨fun _ => ?_, fun q2 => absurd q2 (by decide)⟩⟩
  · rw [if_pos (by omega)] at hQ; exact hQ σ h frR.rf
  · rw [if_neg (by omega)] at hQ
    refine sp_put hS h1 (by omega) ?_
    intro σ1 t1 b1 k1 f1 _
    refine sp_put hS t1 (by omega) ?_
    intro σ2 t2 b2 k2 f2 _
    refine sp_put hS t2 (by omega) ?_
    intro σ3 t3 b3 k3 f3 _
    refine sp_put hS t3 (by omega) ?_
    intro σ4 t4 b4 k4 f4 _
    refine sp_put hS t4 (by omega) ?_
    intro σ5 t5 b5 k5 f5 _
    have F := (((f1.trans f2).trans f3).trans f4).trans f5
    rw [t5, show M.tl + 4 + 4 + 4 + 4 + 4 = M.tl + 20 by omega]
    refine hQ σ5 (h.fd (by rw [t5]) (by omega) (fun x hx => ?_) F) (F.R (by simp))
    show σ5 3 x = if x < M.tl then M.tb x else by5 a b c d e (x - M.tl)
    by_cases q0 : x < M.tl
    · rw [if_pos q0, k5 x (by omega), k4 x (by omega), k3 x (by omega), k2 x (by omega), k1 x q0]; exact h.2.2.1 x q0
    · rw [if_neg q0]
      obtain ⟨y, rfl⟩ : ∃ y, x = M.tl + y := ⟨x - M.tl, by omega⟩
      rw [show M.tl + y - M.tl = y by omega]
      have hm : y % 4 < 4 := Nat.mod_lt _ (by omega)
      have hy : y = 4 * (y / 4) + y % 4 := by omega
      have hw : y / 4 = 0 ∨ y / 4 = 1 ∨ y / 4 = 2 ∨ y / 4 = 3 ∨ y / 4 = 4 := by omega
      have e0 : by5 a b c d e y = by5 a b c d e (4 * (y / 4) + y % 4) := by rw [← hy]
      rw [e0, by5_at hm]
      rcases hw with w | w | w | w | w
      · rw [w, if_pos rfl, k5 _ (by omega), k4 _ (by omega), k3 _ (by omega), k2 _ (by omega), show M.tl + y = M.tl + y % 4 by omega]; exact b1 _ hm
      · rw [w, if_neg (by decide), if_pos rfl, k5 _ (by omega), k4 _ (by omega), k3 _ (by omega), show M.tl + y = M.tl + 4 + y % 4 by omega]; exact b2 _ hm
      · rw [w, if_neg (by decide), if_neg (by decide), if_pos rfl, k5 _ (by omega), k4 _ (by omega), show M.tl + y = M.tl + 4 + 4 + y % 4 by omega]; exact b3 _ hm
      · rw [w, if_neg (by decide), if_neg (by decide), if_neg (by decide), if_pos rfl, k5 _ (by omega), show M.tl + y = M.tl + 4 + 4 + 4 + y % 4 by omega]; exact b4 _ hm
      · rw [w, if_neg (by decide), if_neg (by decide), if_neg (by decide), if_neg (by decide), show M.tl + y = M.tl + 4 + 4 + 4 + 4 + y % 4 by omega]; exact b5 _ hm
theorem c_sheet {n : Int} (hS : SHP S) : CS S mX10_sheet [vR 1, vI n] M (A_sheet M n) := fun σ Q h hQ => by
  unfold A_sheet at hQ
  have h1 := h.2.1
  have hl := h.1.1
  have ref : (n < 0 ∨ (M.tl : Int) < n) → WPs mX10_refused [vR 1, vI 2] S σ Q := fun z => by
    rw [if_pos z] at hQ; exact c_ref hS h frR.rf (by omega) hQ
  refine e_X10_sheet hS ⟨fun q => ref (Or.inl q), fun q => ?_⟩
  rw [h1]
  refine ⟨fun q1 => ?_, fun q1 => ref (Or.inr (by omega))⟩
  rw [if_neg (by omega)] at hQ
  obtain ⟨k, rfl⟩ := nat_of (show 0 ≤ n by omega)
  rw [tn_cast] at hQ
  refine sp_reads (b := M.tb) (len := M.tl) hS (by omega) hl h1 (fun x hx => h.2.2.1 x (by omega)) (fun e σ1 r1 f1 R1 => ⟨fun q => absurd rfl q, fun _ => ?_⟩) (fun D σ1 r1 d1 z1 R1 => ⟨fun _ => ?_, fun q => absurd q (by decide)⟩)
  · rw [r1] at hQ
    have F : ∀ b, b ≠ 1 → b ≠ 2 → b ≠ 106 → b ≠ 107 → b ≠ 108 → b ≠ 124 → ∀ j, (up2 (up2 σ1 2 1 0) 1 13 4) b j = σ b j := fun b b1 b2 b3 b4 b5 b6 j => by
      rw [up2_a b1, up2_a b2, R1.1 b (by simp; omega)]
    refine e_X10_refused hS (hQ _ ⟨⟨by show 0 ≤ 700; omega, h.1.2.1, h.1.2.2.1, h.1.2.2.2.1, h.1.2.2.2.2.1, by show (4 : Int) = 0 ∨ (4 : Int) = 1 ∨ (4 : Int) = 2 ∨ (4 : Int) = 3 ∨ (4 : Int) = 4 ∨ (4 : Int) = 5; omega⟩, ?_, fun x hx => absurd hx (by show ¬ x < 0; omega), ?_, up2_s _ _ _ _, ?_, fun _ => ?_, ?_, fun u hu => ?_, fun d => ?_⟩ ?_)
    · rw [up2_a (by decide), up2_s]; rfl
    · rw [up2_i (by decide), up2_a (by decide), R1.1 1 (by decide)]; exact h.2.2.2.1
    · rw [up2_a (by decide), up2_a (by decide)]; exact f1.1
    · rw [up2_a (by decide), up2_a (by decide)]; exact f1.2
    · have hH := h.2.2.2.2.2.2.2.1
      have F2 : frR 53 106 (up2 (up2 σ1 2 1 0) 1 13 4) σ → True := fun _ => trivial
      obtain ⟨a1, a2, w, a3, a4, a5⟩ := hH
      refine ⟨by rw [F 53 (by decide) (by decide) (by decide) (by decide) (by decide) (by decide)]; exact a1, a2, w, a3, by rw [F 53 (by decide) (by decide) (by decide) (by decide) (by decide) (by decide)]; exact a4, fun i hi' => ?_⟩
      obtain ⟨a, b⟩ := a5 i hi'
      have hc : (w + 10 - i) % 10 < 10 := Nat.mod_lt _ (by omega)
      exact ⟨a.ext (fun j => F _ (by omega) (by omega) (by omega) (by omega) (by omega) (by omega) j) (fun j => F _ (by omega) (by omega) (by omega) (by omega) (by omega) (by omega) j) (fun j => F _ (by omega) (by omega) (by omega) (by omega) (by omega) (by omega) j), b.ext (F _ (by omega) (by omega) (by omega) (by omega) (by omega) (by omega) 4) (fun j => F _ (by omega) (by omega) (by omega) (by omega) (by omega) (by omega) j)⟩
    · rw [F 30 (by decide) (by decide) (by decide) (by decide) (by decide) (by decide)]; exact h.2.2.2.2.2.2.2.2.1 u hu
    · exact (h.w d).ext (fun b b1 b2 b3 b4 j => F b (by omega) (by omega) (by omega) (by omega) (by omega) (by omega) j)
    · exact ((R1.1.R (by simp)).put (by omega) (by omega)).put (by omega) (by omega)
  · rw [r1] at hQ
    have ho := prs_ok r1
    have F1 : frR 1 125 σ σ1 := R1.1.R (by simp)
    have d1' : cD (up2 σ1 2 1 0) 106 D := d1.ext (fun j => up2_a (by decide)) (fun j => up2_a (by decide)) (fun j => up2_a (by decide))
    refine sp_dcopy hS isD_a isD_o (by omega) d1' ho.1 ?_
    intro σ2 d2 f2
    refine e_X2_clear hS ?_
    have F3 : ∀ b, b ≠ 1 → b ≠ 53 → ∀ j, (up2 (up2 σ2 1 12 1) 53 3 0) b j = σ2 b j := fun b b1 b2 j => by rw [up2_a b2, up2_a b1]
    have z2 : z30 (up2 (up2 σ2 1 12 1) 53 3 0) := fun u hu => by rw [F3 30 (by decide) (by decide), f2 30 (by decide), up2_a (by decide), R1.1 30 (by decide)]; exact h.2.2.2.2.2.2.2.2.1 u hu
    refine sp_startPlan hS (d2.ext (fun j => F3 _ (by decide) (by decide) j) (fun j => F3 _ (by decide) (by decide) j) (fun j => F3 _ (by decide) (by decide) j)) ho z2 ?_
    intro σ4 W4 z4 f4
    rw [W4.1.1]
    have F5 : frR 1 2 σ4 (up2 σ4 1 13 0) := frR.rf.put (by omega) (by omega)
    refine e_X10_told hS (hQ _ ⟨⟨by show 0 ≤ 700; omega, fun _ => W4.2.1, fun i hi => absurd hi (by show ¬ i < 0; omega), by show 0 ≤ 10; omega, fun q => absurd (show true = false from q) (by decide), Or.inl rfl⟩, ?_, fun x hx => absurd hx (by show ¬ x < 0; omega), ?_, up2_s _ _ _ _, ?_, fun q => absurd (show (0 : Int) = 4 from q) (by decide), ?_, fun u hu => by rw [F5 30 (by omega)]; exact z4 u hu, fun _ => W4.ext (fun b b1 b2 b3 b4 j => F5 b (by omega) j)⟩ ?_)
    · rw [F5 2 (by omega), f4 2 (by omega), F3 2 (by decide) (by decide), f2 2 (by decide), up2_s]; rfl
    · rw [up2_i (by decide), f4 1 (by omega), up2_a (by decide), up2_s]; rfl
    · rw [F5 124 (by omega), f4 124 (by omega), F3 124 (by decide) (by decide), f2 124 (by decide), up2_a (by decide)]; exact z1
    · obtain ⟨a1, a2, w, a3, a4, a5⟩ := h.2.2.2.2.2.2.2.1
      refine ⟨?_, by show 0 ≤ 10; omega, w, a3, ?_, fun i hi => absurd hi (by show ¬ i < 0; omega)⟩
      · rw [F5 53 (by omega), f4 53 (by omega), up2_s]; rfl
      · rw [F5 53 (by omega), f4 53 (by omega), up2_i (by decide), up2_a (by decide), f2 53 (by decide), up2_a (by decide), R1.1 53 (by decide)]; exact a4
    · exact ((((F1.put (a := 2) (i := 1) (v := 0) (by omega) (by omega)).trans (f2.R (by simp))).put (by omega) (by omega)).put (by omega) (by omega) |>.trans (f4.mono (by omega) (by omega))).put (by omega) (by omega)
end TOPH
