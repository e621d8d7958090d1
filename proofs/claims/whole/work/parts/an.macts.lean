/-! Model: would, worst, enough -/
theorem why_ne {M : Ms} {x y u v : Int} : why M x y u v ≠ 4 := by
  unfold why
  split
  · decide
  · split
    · split <;> decide
    · decide
theorem why_z {M : Ms} {x y u v : Int} (h : why M x y u v = 0) : M.dr = true ∧ M.D.n < 24 ∧ (0 ≤ x ∧ x ≤ M.D.sz) ∧ (0 ≤ y ∧ y ≤ M.D.sz) ∧ (0 ≤ u ∧ u ≤ M.D.sz) ∧ (0 ≤ v ∧ v ≤ M.D.sz) := by
  unfold why at h
  by_cases d : M.dr = false
  · rw [if_pos d] at h; omega
  · rw [if_neg d] at h
    have d' : M.dr = true := by cases e : M.dr <;> simp_all
    split at h
    · rename_i c
      split at h
      · rename_i c2
        exact ⟨d', c2, ⟨c.1.1, c.1.2.1⟩, ⟨c.1.2.2.1, c.1.2.2.2⟩, ⟨c.2.1.1, c.2.1.2.1⟩, ⟨c.2.1.2.2.1, c.2.1.2.2.2⟩⟩
      · omega
    · omega
section MACTS
variable {S : ShT} {σ : StT} {Q : Int → StT → Prop} {M : Ms} {D : Dw} {N : Nat} {f : Nat → Nat}
theorem q_would {x y u v : Int} (hS : SHP S) : MC S mX11_would [vR 125, vI x, vI y, vI u, vI v] M (A_would M x y u v) := fun σ Q ho h hQ => by
  unfold A_would at hQ
  refine e_X11_would hS (m_strokeWhy hS ho h (m_isRefused hS (fun q => ⟨fun _ => ?_, fun c => absurd rfl c⟩) (fun q => ⟨fun c => absurd c (by decide), fun _ => ?_⟩)))
  · rw [if_pos q] at hQ
    obtain ⟨d, hn, hx, hy, hu, hv⟩ := why_z q
    have hD := (ho.E d).1
    rw [q]
    have h0 := h.t (k := 0) (by decide)
    refine m_reckons (G := M.g) hS (ho.G d) (h0.2.2 d).1.toG ?_
    intro σ1 z1 c1
    have t1 := h0.fC c1
    have e50 : σ1 125 50 = M.T.length := z1.2.2.2.2.1
    refine m_comes hS (t1.2.2 d).1 hn ?_
    intro σ2 d2 f2 g2
    have hD2 : okDw (addD M.D x y u v) := hD.add hn hx hy hu hv
    refine m_reckons (G := gG (addD M.D x y u v)) hS hD2.g d2.toG ?_
    intro σ3 z3 c3
    have e50' : σ3 125 50 = tn (addD M.D x y u v) M.D.jo := by rw [z3.2.2.2.2.1]; exact congrArg _ (tn_TR (D := addD M.D x y u v) (j := M.D.jo) hD2.1)
    have e2 : σ3 127 2 = ((M.D.n + 1 : Nat) : Int) := by rw [c3.1 127 (by decide) (by omega)]; exact d2.2.2.1
    have hle := tn_le (D := addD M.D x y u v) (j := M.D.jo) hD2
    have hl := hD.l
    replace hl : M.T.length ≤ 24 := hl
    rw [e50, e50', e2]
    refine ⟨inR_s (by omega) (by omega), fun z hz => ⟨inR_s (by omega) (by omega), ?_⟩⟩
    have F3 : frR 125 154 σ σ3 := (rfu_R _ _).trans (c1.R.trans ((f2.R (by simp)).trans c3.R))
    have := hQ (up2 σ3 127 2 (((M.D.n + 1 : Nat) : Int) - 1)) ⟨?_, ?_, fun _ => ⟨?_, ?_⟩⟩ (F3.put (by omega) (by omega))
    · rw [hz]; exact this
    · refine t1.1.ext (fun j hj => ?_) (fun j => ?_)
      · rw [up2_a (by decide), c3.2 j (by omega) (by omega) (by omega) (by omega) (by omega) (by omega), f2 125 (by decide)]
      · rw [up2_a (by decide), c3.1 126 (by decide) (by omega), f2 126 (by decide)]
    · refine t1.2.1.ext ?_ (fun j => ?_)
      · rw [up2_a (by decide), c3.2 10 (by omega) (by omega) (by omega) (by omega) (by omega) (by omega), f2 125 (by decide)]
      · rw [up2_a (by decide), c3.1 130 (by decide) (by omega), f2 130 (by decide)]
    · obtain ⟨a0, a1, a2, a3, a4, a5, a6, a7⟩ := (t1.2.2 d).1
      have K : ∀ j, j ≠ 2 → j < 7 + 4 * M.D.n → (up2 σ3 127 2 (((M.D.n + 1 : Nat) : Int) - 1)) 127 j = σ1 127 j := fun j h1 h2 => by rw [up2_i h1, c3.1 127 (by decide) (by omega), g2 j h1 (Or.inl h2)]
      refine ⟨?_, ?_, ?_, ?_, ?_, ?_, ?_, fun e he => ?_⟩
      · rw [K 0 (by decide) (by omega)]; exact a0
      · rw [K 1 (by decide) (by omega)]; exact a1
      · rw [up2_s]; show _ = (M.D.n : Int); omega
      · rw [K 3 (by decide) (by omega)]; exact a3
      · rw [K 4 (by decide) (by omega)]; exact a4
      · rw [K 5 (by decide) (by omega)]; exact a5
      · rw [K 6 (by decide) (by omega)]; exact a6
      · replace he : e < 2 * M.D.n := he
        rw [K _ (by omega) (by omega), K _ (by omega) (by omega)]; exact a7 e he
    · exact (t1.2.2 d).2.ext (ho.E d).N (fun k k1 k2 => by rw [up2_i (by omega), c3.1 127 (by decide) (by omega), g2 k (by omega) (by omega)])
  · rw [if_neg q] at hQ
    exact hQ _ (h.t why_ne) (rfu_R _ _)
theorem q_enough {n : Int} (hS : SHP S) : MC S mX11_enough [vR 125, vI n] M (A_enough M n) := fun σ Q ho h hQ => by
  unfold A_enough at hQ
  have no : ∀ k : Int, k = 1 ∨ k = 2 → (∀ σ' : StT, mT σ' (M.t k) → frR 125 154 σ σ' → Q (-1) σ') → WPs mX11_isRefused [vR 125, vI k] S σ (fun r15 s15 => (r15 = 0 → AWs mX11_enough 25 [(0, vR 125), (1, vI n), (2, vI 0)] [] S s15 Q) ∧ (¬ (r15 = 0) → Q (-1) s15)) := fun k hk hh =>
    m_isRefused hS (fun c => absurd c (by omega)) (fun _ => ⟨fun c => absurd c (by decide), fun _ => hh _ (h.t (by omega)) (rfu_R _ _)⟩)
  refine e_X11_enough hS (m_in hS (fun q => e_X11_unless_ hS ⟨fun c => ⟨fun _ => ?_, fun c => absurd rfl c⟩, fun c => ?_⟩) (fun q => e_X11_unless_ hS ⟨fun c => ⟨fun c => absurd c (by decide), fun _ => ?_⟩, fun c => ?_⟩))
  · rw [if_pos (h.d c), if_neg q] at hQ
    exact no 2 (by omega) hQ
  · rw [if_neg (fun d => h.dr1 d c)] at hQ
    exact no 1 (by omega) hQ
  · have d := h.d c
    rw [if_pos d, if_pos q] at hQ
    have hD := (ho.E d).1
    refine m_isRefused hS (fun _ => ⟨fun _ => ?_, fun c => absurd rfl c⟩) (fun c => absurd rfl c)
    have h0 := h.t (k := 0) (by decide)
    refine lup (I := fun i σ1 => 0 ≤ i ∧ i ≤ 51 ∧ fC (rfu σ 0) σ1 ∧ ∀ y : Nat, (y : Int) < i → ¬ ((tn M.D y : Int) ≤ n)) (W := fun i σ1 => AWs mX11_enough 25 [(0, vR 125), (1, vI n), (2, vI i)] [] S σ1 Q) 51 ?_ ?_ 0 _ ⟨by omega, by omega, fC.rf, fun y hy => by omega⟩
    · rintro i σ1 ⟨i0, i1, i2, i3⟩ hge
      refine t_X11_enough_25 hS ⟨fun _ => ?_, fun q => absurd (by omega) q⟩
      have := hQ σ1 (h0.fC i2) ((rfu_R _ _).trans i2.R)
      rw [fst1_no (fun y hy => by simp only [decide_eq_false (i3 y (by omega))])] at this
      exact this
    · rintro i σ1 ⟨i0, i1, i2, i3⟩ hlt kk
      obtain ⟨i, rfl⟩ := nat_of i0
      have h1 := h0.fC i2
      refine t_X11_enough_25 hS ⟨fun q => absurd q (by omega), fun _ => m_trailsBy (D := M.D) hS hD (h1.2.2 d).1 (by omega) ?_⟩
      intro σ2 c2
      refine ⟨fun q2 => ⟨inR_s (by omega) (by omega), kk σ2 ⟨by omega, by omega, i2.trans c2, fun y hy => ?_⟩⟩, fun q2 => ?_⟩
      · by_cases e : y = i
        · subst e; omega
        · exact i3 y (by omega)
      · have := hQ σ2 (h1.fC c2) ((rfu_R _ _).trans (i2.trans c2).R)
        rw [fst1_is (x := i) (by omega) (by simp; omega) (fun y hy => by simp only [decide_eq_false (i3 y (by omega))])] at this
        exact this
  · rw [if_neg (fun d => h.dr1 d c)] at hQ
    exact no 1 (by omega) hQ
theorem q_worst (hS : SHP S) : MC S mX11_worst [vR 125] M (A_worst M) := fun σ Q ho h hQ => by
  unfold A_worst at hQ
  refine e_X11_worst hS (m_ask1 hS ho h (fun d σ' a b => ?_) (fun d σ0 a b c => ?_))
  · rw [if_neg (by rw [d]; decide)] at hQ
    exact ⟨fun c => absurd rfl c, fun _ => hQ σ' a b⟩
  · rw [if_pos d] at hQ
    refine ⟨fun _ => m_laysAside hS ?_, fun c => absurd c (by decide)⟩
    intro σ1 h1 f1
    have hD := b.1.1
    have hn := hD.1
    -- what stays
    let J : StT → Prop := fun σ' => (∀ k, k < 152 → σ' 127 k = σ0 127 k) ∧ (∀ k, k < 152 → σ' 129 k = σ0 127 k) ∧ (∀ j, σ' 126 j = σ0 126 j) ∧ (∀ j, σ' 130 j = σ0 130 j) ∧ (∀ j, j = 5 ∨ j = 11 ∨ j = 1 ∨ j = 2 ∨ j = 3 ∨ j = 10 → σ' 125 j = σ0 125 j) ∧ frR 125 154 σ0 σ'
    have hJ : ∀ σ', J σ' ↔ (∀ k, k < 152 → σ' 127 k = σ0 127 k) ∧ (∀ k, k < 152 → σ' 129 k = σ0 127 k) ∧ (∀ j, σ' 126 j = σ0 126 j) ∧ (∀ j, σ' 130 j = σ0 130 j) ∧ (∀ j, j = 5 ∨ j = 11 ∨ j = 1 ∨ j = 2 ∨ j = 3 ∨ j = 10 → σ' 125 j = σ0 125 j) ∧ frR 125 154 σ0 σ' := fun _ => Iff.rfl
    clear_value J
    have J1 : J σ1 := (hJ σ1).mpr ⟨fun k _ => f1 127 (by decide) k, h1, f1 126 (by decide), f1 130 (by decide), fun j _ => f1 125 (by decide) j, f1.R (by simp)⟩
    have fin : ∀ (σ' : StT) (z : Int), J σ' → z = (if M.D.n = 0 then -2 else (fewest (fun s => tn (dropD M.D s) M.D.jo) (M.D.n - 1) : Int)) → Q z σ' := fun σ' z hj hz => by
      obtain ⟨k1, k2, k3, k4, k5, k6⟩ := (hJ σ').mp hj
      rw [hz]
      exact hQ σ' ⟨a.1.ext (fun j hj => k5 j (by omega)) k3, a.2.1.ext (k5 10 (by omega)) k4, fun _ => ⟨b.2.1.ext hn (fun k hk => k1 k (by omega)), b.2.2.1.ext b.1.N (fun k _ hk => k1 k hk)⟩⟩ (c.trans k6)
    refine lupg (α := Int × Int × StT) (I := fun i x => 0 ≤ i ∧ i ≤ (M.D.n : Int) ∧ J x.2.2 ∧ ((i = 0 ∧ x.1 = -2 ∧ x.2.1 = 1000000) ∨ (1 ≤ i ∧ x.1 = (fewest (fun s => tn (dropD M.D s) M.D.jo) (i.toNat - 1) : Int) ∧ x.2.1 = (tn (dropD M.D (fewest (fun s => tn (dropD M.D s) M.D.jo) (i.toNat - 1))) M.D.jo : Int)))) (W := fun i x => AWs mX11_worst 23 [(0, vR 125), (1, vI x.1), (2, vI x.2.1), (3, vI i)] [] S x.2.2 Q) (M.D.n : Int) ?_ ?_ 0 (-2, 1000000, σ1) ⟨by omega, by omega, J1, Or.inl ⟨rfl, rfl, rfl⟩⟩
    · rintro i ⟨x, y, σ2⟩ ⟨i0, i1, i2, i3⟩ hge
      simp only at i2 i3
      have ei : i = (M.D.n : Int) := by omega
      subst ei
      have e2 : σ2 129 2 = M.D.n := by rw [((hJ σ2).mp i2).2.1 2 (by decide)]; exact b.2.1.2.2.1
      show AWs mX11_worst 23 [(0, vR 125), (1, vI x), (2, vI y), (3, vI (M.D.n : Int))] [] S σ2 Q
      refine t_X11_worst_23 hS ?_
      rw [e2]
      refine ⟨fun _ => fin σ2 x i2 ?_, fun q => absurd (by omega) q⟩
      rcases i3 with ⟨e0, e1, -⟩ | ⟨e0, e1, -⟩
      · rw [if_pos (by omega)]; exact e1
      · rw [if_neg (by omega)]; rw [tn_cast] at e1; exact e1
    · rintro i ⟨x, y, σ2⟩ ⟨i0, i1, i2, i3⟩ hlt kk
      simp only at i2 i3
      obtain ⟨i, rfl⟩ := nat_of i0
      obtain ⟨k1, k2, k3, k4, k5, k6⟩ := (hJ σ2).mp i2
      have hi : i < M.D.n := by omega
      have e2 : σ2 129 2 = M.D.n := by rw [k2 2 (by decide)]; exact b.2.1.2.2.1
      have d2 : eD (σ2 127) M.D := b.2.1.ext hn (fun k hk => k1 k (by omega))
      have hD2 : okDw (dropD M.D i) := hD.drop hi
      have hle := tn_le (D := dropD M.D i) (j := M.D.jo) hD2
      show AWs mX11_worst 23 [(0, vR 125), (1, vI x), (2, vI y), (3, vI (i : Int))] [] S σ2 Q
      refine t_X11_worst_23 hS ?_
      rw [e2]
      refine ⟨fun q => absurd q (by omega), fun _ => m_leaves hS d2 hn hi ?_⟩
      intro σ3 d3 f3 g3
      refine m_reckons (G := gG (dropD M.D i)) hS hD2.g d3.toG ?_
      intro σ4 z4 c4
      have e50 : σ4 125 50 = tn (dropD M.D i) M.D.jo := by rw [z4.2.2.2.2.1]; exact congrArg _ (tn_TR (D := dropD M.D i) (j := M.D.jo) hD2.1)
      rw [e50]
      have tb : ∀ x' y' : Int, x' = (fewest (fun s => tn (dropD M.D s) M.D.jo) i : Int) → y' = (tn (dropD M.D (fewest (fun s => tn (dropD M.D s) M.D.jo) i)) M.D.jo : Int) → WPs mX11_takesBack [vR 125] S σ4 (fun r58 s58 => inR ((i : Int) + 1) ∧ AWs mX11_worst 23 [(0, vR 125), (1, vI x'), (2, vI y'), (3, vI ((i : Int) + 1))] [] S s58 Q) := fun x' y' q1 q2 => by
        refine m_takesBack hS ?_
        intro σ5 h5 f5
        have e129 : ∀ k, k < 152 → σ4 129 k = σ0 127 k := fun k hk => by rw [c4.1 129 (by decide) (by omega), f3 129 (by decide), k2 k hk]
        refine ⟨inR_s (by omega) (by omega), kk (x', y', σ5) ⟨by omega, by omega, (hJ σ5).mpr ⟨fun k hk => by rw [h5 k hk, e129 k hk], fun k hk => by rw [f5 129 (by decide), e129 k hk], fun j => by rw [f5 126 (by decide), c4.1 126 (by decide) (by omega), f3 126 (by decide), k3 j], fun j => by rw [f5 130 (by decide), c4.1 130 (by decide) (by omega), f3 130 (by decide), k4 j], fun j hj => by rw [f5 125 (by decide), c4.2 j (by omega) (by omega) (by omega) (by omega) (by omega) (by omega), f3 125 (by decide), k5 j hj], k6.trans ((f3.R (by simp)).trans (c4.R.trans (f5.R (by simp))))⟩, Or.inr ⟨by omega, ?_, ?_⟩⟩⟩
        · rw [show ((i : Int) + 1).toNat - 1 = i by omega]; exact q1
        · rw [show ((i : Int) + 1).toNat - 1 = i by omega]; exact q2
      show (y ≤ (tn (dropD M.D i) M.D.jo : Int) → _) ∧ (¬ y ≤ (tn (dropD M.D i) M.D.jo : Int) → _)
      rcases i3 with ⟨e0, e1, e3⟩ | ⟨e0, e1, e3⟩
      · have ei : i = 0 := by omega
        subst ei
        exact ⟨fun q => absurd q (by omega), fun _ => tb _ _ rfl rfl⟩
      · obtain ⟨j, rfl⟩ : ∃ j, i = j + 1 := ⟨i - 1, by omega⟩
        rw [tn_cast, Nat.add_sub_cancel] at e1 e3
        have hf : fewest (fun s => tn (dropD M.D s) M.D.jo) (j + 1) = if tn (dropD M.D (j + 1)) M.D.jo < tn (dropD M.D (fewest (fun s => tn (dropD M.D s) M.D.jo) j)) M.D.jo then j + 1 else fewest (fun s => tn (dropD M.D s) M.D.jo) j := rfl
        refine ⟨fun q => tb x y ?_ ?_, fun q => tb _ _ ?_ ?_⟩
        · rw [hf, if_neg (by omega)]; exact e1
        · rw [hf, if_neg (by omega)]; exact e3
        · rw [hf, if_pos (by omega)]
        · rw [hf, if_pos (by omega)]
end MACTS
