/-! Model: queries of the plan -/
theorem wQ.ext {σ σ' : StT} {D : Dw} {N : Nat} {f : Nat → Nat} (h : wQ σ D N f) (h1 : ∀ b, b = 127 ∨ (131 ≤ b ∧ b < 154) → ∀ j, σ' b j = σ b j) (h2 : ∀ j, j = 26 ∨ j = 27 ∨ j = 31 ∨ j = 50 → σ' 125 j = σ 125 j) : wQ σ' D N f := by
  have e : σ' 127 = σ 127 := funext (h1 127 (by omega))
  refine ⟨h.1, ?_, ?_, h.2.2.2.ext (fun b x1 x2 => h1 b (by omega)) h2⟩
  · rw [e]; exact h.2.1
  · rw [e]; exact h.2.2.1
section MQC
variable {S : ShT} {σ : StT} {Q : Int → StT → Prop} {M : Ms} {D : Dw} {N : Nat} {f : Nat → Nat}
theorem mT.d (h : mT σ M) (c : σ 125 11 ≠ 0) : M.dr = true := by
  by_cases d : M.dr = true
  · exact d
  · exact absurd (h.dr0 (dr_f d)) c
theorem q_stroke {s w : Int} (hS : SHP S) : MC S mX11_stroke [vR 125, vI s, vI w] M (A_stroke M s w) := fun σ Q ho h hQ => by
  unfold A_stroke at hQ
  refine e_X11_stroke hS ⟨fun q => ?_, fun q => ?_⟩
  · rw [if_neg (fun c => absurd q (h.dr1 c.1))] at hQ
    exact m_ask0 hS ho h (fun σ' a b => ⟨fun c => absurd rfl c, fun _ => hQ σ' a b⟩)
  · have d := h.d q
    have hn := ho.n d
    have e2 : σ 127 2 = M.D.n := (h.2.2 d).1.2.2.1
    rw [e2]
    refine ⟨inR_s (by omega) (by omega), m_in hS (fun q1 => ⟨fun _ => ?_, fun c => absurd rfl c⟩) (fun q1 => ⟨fun c => absurd c (by decide), fun _ => m_in hS (fun q2 => ⟨fun _ => ?_, fun c => absurd rfl c⟩) (fun q2 => ⟨fun c => absurd c (by decide), fun _ => ?_⟩)⟩)⟩
    · rw [if_neg (fun c => q1 ⟨c.2.1, by omega⟩)] at hQ
      exact m_ask0 hS ho h (fun σ' a b => ⟨fun c => absurd rfl c, fun _ => hQ σ' a b⟩)
    · rw [if_neg (fun c => q2 c.2.2.2)] at hQ
      exact m_ask0 hS ho h (fun σ' a b => ⟨fun c => absurd rfl c, fun _ => hQ σ' a b⟩)
    · rw [if_pos ⟨d, q1.1, by omega, q2⟩] at hQ
      refine m_ask1 hS ho h (fun d' => absurd d (by rw [d']; decide)) (fun _ σ' a b c => ?_)
      have hQ := hQ σ' a c
      unfold tld at hQ
      simp only at hQ
      obtain ⟨s, rfl⟩ := nat_of q1.1
      rw [tn_cast] at hQ
      have hs : s < M.D.n := by omega
      obtain ⟨a0, a1, a2, a3, a4, a5, a6, a7⟩ := b.2.1
      refine ⟨fun _ => ⟨fun q3 => ⟨fun q4 => ?_, fun q4 => ?_⟩, fun q3 => ?_⟩, fun c => absurd c (by decide)⟩
      · refine ⟨inR_s (by omega) (by omega), inR_s (by omega) (by omega), inR_s (by omega) (by omega), ⟨by omega, by omega⟩, ?_⟩
        by_cases c5 : w = 5
        · subst c5
          rw [show (2 * (s : Int) + 5 - 5).toNat = 2 * s by omega, b.2.2.2.1.2.2.1 (2 * s) (by show 2 * s < 2 * M.D.n; omega)]
          exact hQ
        · have c6 : w = 6 := by omega
          subst c6
          rw [show (2 * (s : Int) + 6 - 5).toNat = 2 * s + 1 by omega, b.2.2.2.1.2.2.1 (2 * s + 1) (by show 2 * s + 1 < 2 * M.D.n; omega)]
          exact hQ
      · subst q4
        refine ⟨inR_s (by omega) (by omega), inR_s (by omega) (by omega), inR_s (by omega) (by omega), ?_⟩
        exact m_apart (G := gG M.D) (a := 2 * s) (b := 2 * s + 1) hS b.rG b.1.G (by show 2 * s < 2 * M.D.n; omega) (by show 2 * s + 1 < 2 * M.D.n; omega) hQ
      · refine ⟨inR_s (by omega) (by omega), inR_s (by omega) (by omega), inR_s (by omega) (by omega), ⟨by omega, by omega⟩, ?_⟩
        have hw : w = 0 ∨ w = 1 ∨ w = 2 ∨ w = 3 := by omega
        rcases hw with rfl | rfl | rfl | rfl
        · rw [show (7 + 4 * (s : Int) + 0).toNat = 7 + 2 * (2 * s) by omega, (a7 (2 * s) (by omega)).1]; exact hQ
        · rw [show (7 + 4 * (s : Int) + 1).toNat = 8 + 2 * (2 * s) by omega, (a7 (2 * s) (by omega)).2]; exact hQ
        · rw [show (7 + 4 * (s : Int) + 2).toNat = 7 + 2 * (2 * s + 1) by omega, (a7 (2 * s + 1) (by omega)).1]; exact hQ
        · rw [show (7 + 4 * (s : Int) + 3).toNat = 8 + 2 * (2 * s + 1) by omega, (a7 (2 * s + 1) (by omega)).2]; exact hQ
theorem q_trail {i w : Int} (hS : SHP S) : MC S mX11_trail [vR 125, vI i, vI w] M (A_trail M i w) := fun σ Q ho h hQ => by
  unfold A_trail at hQ
  refine e_X11_trail hS ⟨fun q => ?_, fun q => ?_⟩
  · rw [if_neg (fun c => absurd q (h.dr1 c.1))] at hQ
    exact m_ask0 hS ho h (fun σ' a b => ⟨fun c => absurd rfl c, fun _ => hQ σ' a b⟩)
  · have d := h.d q
    have hN := (ho.E d).N
    have e2 : σ 127 103 = M.N := (h.2.2 d).2.1
    rw [e2]
    refine ⟨inR_s (by omega) (by omega), m_in hS (fun q1 => ⟨fun _ => ?_, fun c => absurd rfl c⟩) (fun q1 => ⟨fun c => absurd c (by decide), fun _ => m_in hS (fun q2 => ⟨fun _ => ?_, fun c => absurd rfl c⟩) (fun q2 => ⟨fun c => absurd c (by decide), fun _ => ?_⟩)⟩)⟩
    · rw [if_neg (fun c => q1 ⟨c.2.1, by omega⟩)] at hQ
      exact m_ask0 hS ho h (fun σ' a b => ⟨fun c => absurd rfl c, fun _ => hQ σ' a b⟩)
    · rw [if_neg (fun c => q2 c.2.2.2)] at hQ
      exact m_ask0 hS ho h (fun σ' a b => ⟨fun c => absurd rfl c, fun _ => hQ σ' a b⟩)
    · rw [if_pos ⟨d, q1.1, by omega, q2⟩] at hQ
      refine m_ask1 hS ho h (fun d' => absurd d (by rw [d']; decide)) (fun _ σ' a b c => ?_)
      have hQ := hQ σ' a c
      unfold tld at hQ
      simp only at hQ
      obtain ⟨i, rfl⟩ := nat_of q1.1
      rw [tn_cast] at hQ
      have hi : i < M.N := by omega
      have ht := b.1.2.2.2 i hi
      have hl := b.1.le
      obtain ⟨t1, t2, t3, -⟩ := b.t ht
      refine ⟨fun _ => ⟨fun q3 => m_planned hS b hi ?_, fun q3 => m_planned hS b hi ⟨⟨by omega, by omega⟩, ?_⟩, fun q3 => m_planned hS b hi ⟨⟨by omega, by omega⟩, ?_⟩, fun q3 => m_startAt hS b hi ?_, fun q3 => m_endAt hS b hi ?_, fun q3 => m_planned hS b hi (m_longOf hS b ht ?_), fun q3 => ⟨inR_s (by omega) (by omega), ⟨by omega, by omega⟩, ?_⟩⟩, fun c => absurd c (by decide)⟩
      · rw [if_neg (by omega), if_neg (by omega), if_neg (by omega), if_neg (by omega), if_neg (by omega), if_neg (by omega)] at hQ; exact hQ
      · rw [if_pos q3] at hQ; rw [tn_cast, t1]; exact hQ
      · rw [if_neg (by omega), if_pos q3] at hQ; rw [tn_cast, t2]; exact hQ
      · rw [if_neg (by omega), if_neg (by omega), if_pos q3] at hQ; exact hQ
      · rw [if_neg (by omega), if_neg (by omega), if_neg (by omega), if_pos q3] at hQ; exact hQ
      · rw [if_neg (by omega), if_neg (by omega), if_neg (by omega), if_neg (by omega), if_pos q3] at hQ; exact hQ
      · rw [if_neg (by omega), if_neg (by omega), if_neg (by omega), if_neg (by omega), if_neg (by omega), if_pos q3] at hQ
        rw [show (128 + (i : Int)).toNat = 128 + i by omega, (b.2.2.1.2 i hi).2]; exact hQ
theorem q_ride {i k : Int} (hS : SHP S) : MC S mX11_ride [vR 125, vI i, vI k] M (A_ride M i k) := fun σ Q ho h hQ => by
  unfold A_ride at hQ
  refine e_X11_ride hS ⟨fun q => ?_, fun q => ?_⟩
  · rw [if_neg (fun c => absurd q (h.dr1 c.1))] at hQ
    exact m_ask0 hS ho h (fun σ' a b => ⟨fun c => absurd rfl c, fun _ => hQ σ' a b⟩)
  · have d := h.d q
    have hN := (ho.E d).N
    have e2 : σ 127 103 = M.N := (h.2.2 d).2.1
    rw [e2]
    refine ⟨inR_s (by omega) (by omega), m_in hS (fun q1 => ⟨fun _ => ?_, fun c => absurd rfl c⟩) (fun q1 => ⟨fun c => absurd c (by decide), fun _ => ?_⟩)⟩
    · rw [if_neg (fun c => q1 ⟨c.2.1, by omega⟩)] at hQ
      exact m_ask0 hS ho h (fun σ' a b => ⟨fun c => absurd rfl c, fun _ => hQ σ' a b⟩)
    · refine m_ask1 hS ho h (fun d' => absurd d (by rw [d']; decide)) (fun _ σ' a b c => ?_)
      obtain ⟨i, rfl⟩ := nat_of q1.1
      rw [tn_cast] at hQ
      have hi : i < M.N := by omega
      have ht := b.1.2.2.2 i hi
      have hl := b.1.le
      obtain ⟨t1, t2, t3, -⟩ := b.t ht
      replace t3 : (tg M.T (M.f i / 2)).2.length ≤ 24 := t3
      refine ⟨fun _ => m_planned hS b hi ?_, fun c => absurd c (by decide)⟩
      rw [tn_cast, t2]
      show (0 ≤ ((M.f i / 2 : Nat) : Int) ∧ ((M.f i / 2 : Nat) : Int) < 24) ∧ inR (((tg M.T (M.f i / 2)).2.length : Int) - 1) ∧ WPs mX11_in [vI k, vI 0, vI (((tg M.T (M.f i / 2)).2.length : Int) - 1)] S σ' _
      refine ⟨⟨by omega, by omega⟩, inR_s (by omega) (by omega), m_in hS (fun q2 => ⟨fun _ => ?_, fun c => absurd rfl c⟩) (fun q2 => ⟨fun c => absurd c (by decide), fun _ => ?_⟩)⟩
      · rw [if_neg (fun c => q2 ⟨c.2.2.2.1, by have := c.2.2.2.2; omega⟩)] at hQ
        exact m_no hS (by decide) a (fun σ2 a2 b2 => hQ σ2 a2 (c.trans b2))
      · obtain ⟨k, rfl⟩ := nat_of q2.1
        rw [if_pos ⟨d, q1.1, by omega, q2.1, by omega⟩] at hQ
        have hQ := hQ σ' a c
        refine m_rideAt hS b hi ?_ hQ
        show k < (tg M.T (M.f i / 2)).2.length
        omega
theorem q_travel (hS : SHP S) : MC S mX11_travel [vR 125] M (A_travel M) := fun σ Q ho h hQ => by
  unfold A_travel at hQ
  refine e_X11_travel hS (m_ask1 hS ho h (fun d σ' a b => ?_) (fun d σ' a b c => ?_))
  · rw [if_neg (by rw [d]; decide)] at hQ
    exact ⟨fun _ => hQ σ' a b, fun c => absurd rfl c⟩
  · rw [if_pos d] at hQ
    exact ⟨fun c => absurd c (by decide), fun _ => m_leaps hS b (hQ σ' a c)⟩
theorem q_lifts (hS : SHP S) : MC S mX11_lifts [vR 125] M (A_lifts M) := fun σ Q ho h hQ => by
  unfold A_lifts at hQ
  refine e_X11_lifts hS (m_ask1 hS ho h (fun d σ' a b => ?_) (fun d σ' a b c => ?_))
  · rw [if_neg (by rw [d]; decide)] at hQ
    exact ⟨fun c => absurd rfl c, fun _ => hQ σ' a b⟩
  · rw [if_pos d] at hQ
    have hQ := hQ σ' a c
    unfold tld lif at hQ
    simp only at hQ
    have hN := b.1.N
    have e103 := b.2.2.1.1
    have hz : ∀ P : Nat → Bool, P 0 = false → cnt P 1 = 0 := fun P hP => by rw [cnt_s, hP]; rfl
    refine ⟨fun _ => ?_, fun c => absurd c (by decide)⟩
    refine lupg (α := Int) (I := fun i x => 1 ≤ i ∧ (i ≤ (M.N : Int) ∨ i = 1) ∧ x = (cnt (fun i => decide (1 ≤ i) && decide (0 < lg M.g (hm M.D) M.T M.N M.f i)) i.toNat : Int)) (W := fun i x => AWs mX11_lifts 14 [(0, vR 125), (1, vI x), (2, vI i)] [] S σ' Q) (M.N : Int) ?_ ?_ 1 0 ⟨by omega, by omega, ?_⟩
    · rintro i x ⟨i0, i1, rfl⟩ hge
      refine t_X11_lifts_14 hS ?_
      rw [e103]
      refine ⟨fun _ => ?_, fun q => absurd (by omega) q⟩
      by_cases e : M.N = 0
      · have ei : i = 1 := by omega
        subst ei
        rw [e] at hQ
        have := hz (fun i => decide (1 ≤ i) && decide (0 < lg M.g (hm M.D) M.T M.N M.f i)) rfl
        rw [show (1 : Int).toNat = 1 from rfl, this]; exact hQ
      · have ei : i = (M.N : Int) := by omega
        subst ei
        rw [tn_cast]; exact hQ
    · rintro i x ⟨i0, i1, rfl⟩ hlt kk
      obtain ⟨i, rfl⟩ := nat_of (show 0 ≤ i by omega)
      refine t_X11_lifts_14 hS ?_
      rw [e103, tn_cast]
      have hc := cnt_le (fun i => decide (1 ≤ i) && decide (0 < lg M.g (hm M.D) M.T M.N M.f i)) i
      have hs := cnt_s (fun i => decide (1 ≤ i) && decide (0 < lg M.g (hm M.D) M.T M.N M.f i)) i
      refine ⟨fun q => absurd q (by omega), fun _ => m_leap hS b (by omega) ?_⟩
      rw [if_neg (show ¬ M.N = 0 by omega)]
      refine ⟨fun q => ?_, fun q => ?_⟩
      · replace q : lg M.g (hm M.D) M.T M.N M.f i ≤ 0 := q
        rw [if_neg (by simp; omega)] at hs
        exact ⟨inR_s (by omega) (by omega), inR_s (by omega) (by omega), kk _ ⟨by omega, by omega, by rw [show ((i : Int) + 1).toNat = i + 1 from rfl]; omega⟩⟩
      · replace q : ¬ lg M.g (hm M.D) M.T M.N M.f i ≤ 0 := q
        rw [if_pos (by simp; omega)] at hs
        exact ⟨inR_s (by omega) (by omega), inR_s (by omega) (by omega), kk _ ⟨by omega, by omega, by rw [show ((i : Int) + 1).toNat = i + 1 from rfl]; omega⟩⟩
    · rw [show (1 : Int).toNat = 1 from rfl, hz _ rfl]; rfl
theorem m_allTime {dn up : Int} (hS : SHP S) (h : wQ σ D N f) (hd : D.dn = dn) (hu : D.up = up) (hQ : Q (dn * si (sl (gG D)) D.n + up * trv (gG D) (hm D) (TT D) N f) σ) : WPs mX11_allTime [vR 125] S σ Q := by
  obtain ⟨-, -, -, -, -, ⟨d0, d9⟩, ⟨u0, u9⟩, -⟩ := h.1.1
  have hn : D.n ≤ 24 := h.n
  have e2 : σ 127 2 = D.n := h.2.1.2.2.1
  have e5 : σ 127 5 = dn := h.2.1.2.2.2.2.2.1.trans hd
  have e6 : σ 127 6 = up := h.2.1.2.2.2.2.2.2.1.trans hu
  rw [hd] at d0 d9
  rw [hu] at u0 u9
  have b2 := trv_i (T := TT D) (N := N) (f := f) h.1.G h.1.H h.1.N
  have m2 := mul_in (m := 9) (n := 10000) (show 0 ≤ up by omega) (by omega) b2.1 (by omega)
  have m1 : ∀ i : Nat, i ≤ 24 → 0 ≤ dn * si (sl (gG D)) i ∧ dn * si (sl (gG D)) i ≤ ((9 * 9600 : Nat) : Int) := fun i hi => by
    have b1 := si_in (fun i => sl_in h.1.G i) i
    exact mul_in (m := 9) (n := 9600) (by omega) (by omega) b1.1 (by omega)
  refine e_X11_allTime hS (m_leaps hS h ?_)
  rw [e6]
  refine ⟨inR_s (by omega) (by omega), fun x hx => ?_⟩
  subst hx
  refine lupg (α := Int) (I := fun i x => 0 ≤ i ∧ i ≤ (D.n : Int) ∧ x = dn * si (sl (gG D)) i.toNat + up * trv (gG D) (hm D) (TT D) N f) (W := fun i x => AWs mX11_allTime 15 [(0, vR 125), (1, vI x), (2, vI i)] [] S σ Q) (D.n : Int) ?_ ?_ 0 _ ⟨by omega, by omega, ?_⟩
  · rintro i x ⟨i0, i1, rfl⟩ hge
    have ei : i = (D.n : Int) := by omega
    subst ei
    refine t_X11_allTime_15 hS ?_
    rw [e2, tn_cast]
    exact ⟨fun _ => hQ, fun q => absurd (by omega) q⟩
  · rintro i x ⟨i0, i1, rfl⟩ hlt kk
    obtain ⟨i, rfl⟩ := nat_of i0
    refine t_X11_allTime_15 hS ?_
    rw [e2, tn_cast, e5]
    refine ⟨fun q => absurd q (by omega), fun _ => ⟨inR_s (by omega) (by omega), inR_s (by omega) (by omega), inR_s (by omega) (by omega), ?_⟩⟩
    refine m_apart (G := gG D) (a := 2 * i) (b := 2 * i + 1) hS h.rG h.1.G (by show 2 * i < 2 * D.n; omega) (by show 2 * i + 1 < 2 * D.n; omega) ?_
    have e : ds (gG D) (2 * i) (2 * i + 1) = sl (gG D) i := rfl
    rw [e]
    have k1 := m1 i (by omega)
    have k2 := m1 (i + 1) (by omega)
    have e3 : dn * si (sl (gG D)) (i + 1) = dn * si (sl (gG D)) i + dn * sl (gG D) i := by
      show dn * (si (sl (gG D)) i + sl (gG D) i) = _
      rw [Int.mul_add]
    have b3 := mul_in (m := 9) (n := 400) (show 0 ≤ dn by omega) (by omega) (sl_in h.1.G i).1 (by have := (sl_in h.1.G i).2; omega)
    refine ⟨inR_s (by omega) (by omega), inR_s (by omega) (by omega), fun x hx => ?_⟩
    refine ⟨inR_s (by omega) (by omega), kk _ ⟨by omega, by omega, ?_⟩⟩
    rw [show ((i : Int) + 1).toNat = i + 1 from rfl, e3]; omega
  · show _ = dn * 0 + _
    omega
theorem q_time (hS : SHP S) : MC S mX11_time [vR 125] M (A_time M) := fun σ Q ho h hQ => by
  unfold A_time at hQ
  refine e_X11_time hS (m_ask1 hS ho h (fun d σ' a b => ?_) (fun d σ' a b c => ?_))
  · rw [if_neg (by rw [d]; decide)] at hQ
    exact ⟨fun _ => hQ σ' a b, fun c => absurd rfl c⟩
  · rw [if_pos d] at hQ
    exact ⟨fun c => absurd c (by decide), fun _ => m_allTime hS b rfl rfl (hQ σ' a c)⟩
theorem q_longest (hS : SHP S) : MC S mX11_longest [vR 125] M (A_longest M) := fun σ Q ho h hQ => by
  unfold A_longest at hQ
  refine e_X11_longest hS (m_ask1 hS ho h (fun d σ' a b => ?_) (fun d σ' a b c => ?_))
  · rw [if_neg (by rw [d]; decide)] at hQ
    exact ⟨fun c => absurd rfl c, fun _ => hQ σ' a b⟩
  · rw [if_pos d] at hQ
    have hQ := hQ σ' a c
    unfold tld at hQ
    simp only at hQ
    have hN := b.1.N
    have e103 := b.2.2.1.1
    refine ⟨fun _ => ?_, fun c => absurd c (by decide)⟩
    refine lupg (α := Int) (I := fun i x => 0 ≤ i ∧ i ≤ (M.N : Int) ∧ x = lgs M.g M.T M.f i.toNat) (W := fun i x => AWs mX11_longest 15 [(0, vR 125), (1, vI x), (2, vI i)] [] S σ' Q) (M.N : Int) ?_ ?_ 0 _ ⟨by omega, by omega, rfl⟩
    · rintro i x ⟨i0, i1, rfl⟩ hge
      have ei : i = (M.N : Int) := by omega
      subst ei
      refine t_X11_longest_15 hS ?_
      rw [e103, tn_cast]
      exact ⟨fun _ => hQ, fun q => absurd (by omega) q⟩
    · rintro i x ⟨i0, i1, rfl⟩ hlt kk
      obtain ⟨i, rfl⟩ := nat_of i0
      have hi : i < M.N := by omega
      have hin := lgs_in M.g M.T M.f i
      refine t_X11_longest_15 hS ?_
      rw [e103, tn_cast]
      refine ⟨fun q => absurd q (by omega), fun _ => ⟨fun q => ⟨inR_s (by omega) (by omega), kk _ ⟨by omega, by omega, ?_⟩⟩, fun q => ?_⟩⟩
      · rw [show ((i : Int) + 1).toNat = i + 1 from rfl]; unfold lgs; rw [if_pos (Or.inl q)]
      · obtain ⟨y, hy⟩ := nat_of (show 0 ≤ lgs M.g M.T M.f i by omega)
        rw [hy]
        refine m_planned hS b hi (m_longOf hS b (b.1.2.2.2 i hi) (m_planned hS b (show y < M.N by omega) (m_longOf hS b (b.1.2.2.2 y (by omega)) ⟨fun q2 => ⟨inR_s (by omega) (by omega), kk _ ⟨by omega, by omega, ?_⟩⟩, fun q2 => ⟨inR_s (by omega) (by omega), kk _ ⟨by omega, by omega, ?_⟩⟩⟩)))
        · rw [show ((i : Int) + 1).toNat = i + 1 from rfl]
          replace q2 : tL M.g (tg M.T (M.f i / 2)).2 ≤ tL M.g (tg M.T (M.f y / 2)).2 := q2
          unfold lgs
          rw [hy, tn_cast, if_neg]
          rintro (c | c) <;> omega
        · rw [show ((i : Int) + 1).toNat = i + 1 from rfl]
          replace q2 : ¬ tL M.g (tg M.T (M.f i / 2)).2 ≤ tL M.g (tg M.T (M.f y / 2)).2 := q2
          unfold lgs
          rw [hy, tn_cast, if_pos (Or.inr (by omega))]
theorem q_farthest (hS : SHP S) : MC S mX11_farthest [vR 125] M (A_farthest M) := fun σ Q ho h hQ => by
  unfold A_farthest at hQ
  refine e_X11_farthest hS (m_ask1 hS ho h (fun d σ' a b => ?_) (fun d σ' a b c => ?_))
  · rw [if_neg (by rw [d]; decide)] at hQ
    exact ⟨fun c => absurd rfl c, fun _ => hQ σ' a b⟩
  · rw [if_pos d] at hQ
    have hQ := hQ σ' a c
    unfold tld at hQ
    simp only at hQ
    have hN := b.1.N
    have e103 := b.2.2.1.1
    rw [e103]
    refine ⟨fun _ => ⟨fun q => ?_, fun q => ?_⟩, fun c => absurd c (by decide)⟩
    · rw [if_neg (by omega)] at hQ
      refine lupg (α := Int) (I := fun i x => 1 ≤ i ∧ i ≤ (M.N : Int) + 1 ∧ x = (frt (lg M.g (hm M.D) M.T M.N M.f) (i.toNat - 1) : Int)) (W := fun i x => AWs mX11_farthest 27 [(0, vR 125), (1, vI x), (2, vI i)] [] S σ' Q) ((M.N : Int) + 1) ?_ ?_ 1 _ ⟨by omega, by omega, rfl⟩
      · rintro i x ⟨i0, i1, rfl⟩ hge
        have ei : i = ((M.N + 1 : Nat) : Int) := by omega
        subst ei
        refine t_X11_farthest_27 hS ?_
        rw [e103, tn_cast, Nat.add_sub_cancel]
        exact ⟨fun _ => hQ, fun q => absurd (by omega) q⟩
      · rintro i x ⟨i0, i1, rfl⟩ hlt kk
        obtain ⟨i, rfl⟩ : ∃ j : Nat, i = ((j + 1 : Nat) : Int) := ⟨i.toNat - 1, by omega⟩
        have hle := frt_le (lg M.g (hm M.D) M.T M.N M.f) i
        refine t_X11_farthest_27 hS ?_
        rw [e103, tn_cast, Nat.add_sub_cancel]
        refine ⟨fun q => absurd q (by omega), fun _ => m_leap hS b (by omega) (m_leap hS b (by omega) ?_)⟩
        rw [if_neg (show ¬ M.N = 0 by omega), if_neg (show ¬ M.N = 0 by omega)]
        refine ⟨fun q2 => ⟨inR_s (by omega) (by omega), kk _ ⟨by omega, by omega, ?_⟩⟩, fun q2 => ⟨inR_s (by omega) (by omega), kk _ ⟨by omega, by omega, ?_⟩⟩⟩
        · replace q2 : lg M.g (hm M.D) M.T M.N M.f (i + 1) ≤ lg M.g (hm M.D) M.T M.N M.f (frt (lg M.g (hm M.D) M.T M.N M.f) i) := q2
          rw [show (((i + 1 : Nat) : Int) + 1).toNat - 1 = i + 1 by omega]
          show _ = (((if lg M.g (hm M.D) M.T M.N M.f (frt (lg M.g (hm M.D) M.T M.N M.f) i) < lg M.g (hm M.D) M.T M.N M.f (i + 1) then i + 1 else frt (lg M.g (hm M.D) M.T M.N M.f) i) : Nat) : Int)
          rw [if_neg (by omega)]
        · replace q2 : ¬ lg M.g (hm M.D) M.T M.N M.f (i + 1) ≤ lg M.g (hm M.D) M.T M.N M.f (frt (lg M.g (hm M.D) M.T M.N M.f) i) := q2
          rw [show (((i + 1 : Nat) : Int) + 1).toNat - 1 = i + 1 by omega]
          show _ = (((if lg M.g (hm M.D) M.T M.N M.f (frt (lg M.g (hm M.D) M.T M.N M.f) i) < lg M.g (hm M.D) M.T M.N M.f (i + 1) then i + 1 else frt (lg M.g (hm M.D) M.T M.N M.f) i) : Nat) : Int)
          rw [if_pos (by omega)]
    · rw [if_pos (by omega)] at hQ; exact hQ
end MQC
