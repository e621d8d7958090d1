/-! Model: what is kept; the acts -/
theorem mW.w {σ : StT} {M : Ms} {D : Dw} {N : Nat} {f : Nat → Nat} {L : Hs} (h : mW σ (M.t 0)) (d : M.dr = true) : mW σ (M.w D N f L) := by
  refine ⟨h.1, h.2.1, ?_, h.2.2.2.1, h.2.2.2.2.1, fun q => absurd (show (0 : Int) = 4 from q) (by decide)⟩
  have := h.2.2.1
  rw [show (M.t 0).dr = true from d] at this; exact this
section MKEEP
variable {S : ShT} {σ : StT} {Q : Int → StT → Prop} {M : Ms} {D : Dw} {N : Nat} {f : Nat → Nat} {L : Hs}
theorem m_keep50 {L' : Hs} (hS : SHP S) (hH : mK σ L') (hl : L'.length ≤ 9) (hL : ∀ i, i < L'.length → (hg L' i).1.n ≤ 24 ∧ (hg L' i).2.1 ≤ 24) (hD : eD (σ 127) D) (hn : D.n ≤ 24) (hP : eP (σ 127) N f) (hN : N ≤ 24) (hQ : ∀ σ' : StT, mK σ' ((D, N, f) :: L') → fr [125, 130] σ σ' → (∀ j, j ≠ 10 → σ' 125 j = σ 125 j) → Q 0 σ') : AWs mX11_keeps 50 [(0, vR 125)] [] S σ Q := by
  refine t_X11_keeps_50 hS ?_
  rw [hH.1, show (152 * (L'.length : Int)) = ((152 * L'.length : Nat) : Int) by omega]
  refine ⟨inR_s (by omega) (by omega), ?_⟩
  refine m_copies (f := 0) (t := 152 * L'.length) hS (k_127 hS) (k_130 hS) (by decide) (by omega) (by omega) (by omega) (by omega) ?_
  intro σ1 c1 c2 f1
  have e10 : σ1 125 10 = L'.length := by rw [f1 125 (by decide)]; exact hH.1
  rw [e10]
  refine ⟨inR_s (by omega) (by omega), hQ _ ⟨?_, fun i hi => ?_⟩ ((f1.mono (by simp)).put (by simp)) (fun j hj => by rw [up2_i hj]; exact f1 125 (by decide) j)⟩
  · rw [up2_s, List.length_cons]; omega
  · rw [List.length_cons] at hi
    have e130 : (up2 σ1 125 10 ((L'.length : Int) + 1)) 130 = σ1 130 := funext (fun j => up2_a (by decide))
    rw [e130, List.length_cons]
    cases i with
    | zero =>
      have e : ∀ k, k < 152 → σ1 130 (152 * (L'.length + 1 - 1 - 0) + k) = σ 127 k := fun k hk => by
        have := c1 k hk
        rw [Nat.zero_add] at this
        rw [show L'.length + 1 - 1 - 0 = L'.length by omega]; exact this
      exact ⟨hD.ext hn (fun k hk => e k (by omega)), hP.ext hN (fun k _ hk => e k hk)⟩
    | succ i =>
      have hi' : i < L'.length := by omega
      obtain ⟨h1, h2⟩ := hH.2 i hi'
      obtain ⟨n1, n2⟩ := hL i hi'
      have e : ∀ k, k < 152 → σ1 130 (152 * (L'.length + 1 - 1 - (i + 1)) + k) = σ 130 (152 * (L'.length - 1 - i) + k) := fun k hk => by
        rw [show L'.length + 1 - 1 - (i + 1) = L'.length - 1 - i by omega]
        refine c2 _ (Or.inl ?_)
        have : 152 * (L'.length - 1 - i) + 152 ≤ 152 * L'.length := by omega
        omega
      exact ⟨h1.ext n1 (fun k hk => e k (by omega)), h2.ext n2 (fun k _ hk => e k hk)⟩
theorem m_keeps (hS : SHP S) (hH : mK σ L) (hl : L.length ≤ 10) (hL : ∀ i, i < L.length → (hg L i).1.n ≤ 24 ∧ (hg L i).2.1 ≤ 24) (hD : eD (σ 127) D) (hn : D.n ≤ 24) (hP : eP (σ 127) N f) (hN : N ≤ 24) (hQ : ∀ σ' : StT, mK σ' (hk1 L D N f) → fr [125, 130] σ σ' → (∀ j, j ≠ 10 → σ' 125 j = σ 125 j) → Q 0 σ') : WPs mX11_keeps [vR 125] S σ Q := by
  have hk : hk1 L D N f = (D, N, f) :: L.take 9 := rfl
  rw [hk] at hQ
  refine e_X11_keeps hS ?_
  rw [hH.1]
  refine ⟨fun q => ?_, fun q => ?_⟩
  · rw [List.take_of_length_le (by omega)] at hQ
    exact m_keep50 hS hH (by omega) hL hD hn hP hN hQ
  · have hl10 : L.length = 10 := by omega
    have hlt : (L.take 9).length = 9 := by rw [List.length_take]; omega
    have hgt : ∀ i, i < 9 → hg (L.take 9) i = hg L i := fun i hi => by unfold hg; rw [gd_take hi]
    refine lup (I := fun i σ' => 0 ≤ i ∧ i ≤ 1368 ∧ fr [130] σ σ' ∧ (∀ j : Nat, (j : Int) < i → σ' 130 j = σ 130 (j + 152)) ∧ ∀ j : Nat, i ≤ j → σ' 130 j = σ 130 j) (W := fun i σ' => AWs mX11_keeps 11 [(0, vR 125), (1, vI i)] [] S σ' Q) 1368 ?_ ?_ 0 σ ⟨by omega, by omega, fr.rf, fun j hj => by omega, fun _ _ => rfl⟩
    · rintro i σ1 ⟨i0, i1, i2, i3, i4⟩ hge
      have ei : i = 1368 := by omega
      subst ei
      refine t_X11_keeps_11 hS ⟨fun _ => ?_, fun q => absurd (by omega) q⟩
      rw [i2 125 (by decide), hH.1]
      refine ⟨inR_s (by omega) (by omega), ?_⟩
      have e130 : (up2 σ1 125 10 ((L.length : Int) - 1)) 130 = σ1 130 := funext (fun j => up2_a (by decide))
      have e127 : (up2 σ1 125 10 ((L.length : Int) - 1)) 127 = σ 127 := funext (fun j => by rw [up2_a (by decide)]; exact i2 127 (by decide) j)
      refine m_keep50 (L' := L.take 9) hS ⟨?_, fun i hi => ?_⟩ (by omega) (fun i hi => ?_) (by rw [e127]; exact hD) hn (by rw [e127]; exact hP) hN ?_
      · rw [up2_s, hlt]; omega
      · rw [hlt] at hi
        rw [e130, hlt, hgt i hi]
        obtain ⟨h1, h2⟩ := hH.2 i (by omega)
        obtain ⟨n1, n2⟩ := hL i (by omega)
        rw [hl10] at h1 h2
        have e : ∀ k, k < 152 → σ1 130 (152 * (9 - 1 - i) + k) = σ 130 (152 * (10 - 1 - i) + k) := fun k hk => by
          rw [i3 _ (by omega)]
          exact congrArg (σ 130) (by omega)
        exact ⟨h1.ext n1 (fun k hk => e k (by omega)), h2.ext n2 (fun k _ hk => e k hk)⟩
      · rw [hlt] at hi
        rw [hgt i hi]; exact hL i (by omega)
      · intro σ2 k2 f2 b2
        refine hQ σ2 k2 (((i2.mono (by simp)).put (a := 125) (by simp)).trans f2) (fun j hj => ?_)
        rw [b2 j hj, up2_i hj]; exact i2 125 (by decide) j
    · rintro i σ1 ⟨i0, i1, i2, i3, i4⟩ hlt kk
      obtain ⟨i, rfl⟩ := nat_of i0
      refine t_X11_keeps_11 hS ⟨fun q => absurd q (by omega), fun _ => ?_⟩
      rw [tn_cast, show ((i : Int) + 152).toNat = i + 152 by omega]
      refine ⟨inR_s (by omega) (by omega), ⟨by omega, by omega⟩, ⟨by omega, by omega⟩, inR_s (by omega) (by omega), kk _ ⟨by omega, by omega, i2.put (by simp), fun j hj => ?_, fun j hj => ?_⟩⟩
      · by_cases e : j = i
        · subst e; rw [up2_s]; exact i4 _ (by omega)
        · rw [up2_i e]; exact i3 j (by omega)
      · rw [up2_i (by omega)]; exact i4 j (by omega)
/-- refused with nothing, and what is kept is kept -/
theorem m_act (hS : SHP S) (ho : okM M) (h : mT σ M) (d : M.dr = true) (hQ : ∀ σ' : StT, mW σ' (M.t 0) → mK σ' M.k → (∀ j, σ' 127 j = σ 127 j) → frR 125 154 σ σ' → Q 0 σ') : WPs mX11_keeps [vR 125] S (rfu σ 0) Q := by
  have h0 := h.t (k := 0) (by decide)
  have hE := ho.E d
  refine m_keeps (L := M.L) (D := M.D) (N := M.N) (f := M.f) hS h0.2.1 ho.2.2.2.1 (fun i hi => ⟨(ho.2.2.1 i hi).1.1, (ho.2.2.1 i hi).N⟩) (h0.2.2 d).1 hE.1.1 (h0.2.2 d).2 hE.N ?_
  intro σ1 k1 f1 b1
  exact hQ σ1 (h0.1.ext (fun j hj => b1 j (by omega)) (f1 126 (by decide))) k1 (fun j => by rw [f1 127 (by decide)]; exact rfu_b (by decide) j) ((rfu_R _ _).trans (f1.R (by simp)))
theorem q_add {x y u v : Int} (hS : SHP S) : MC S mX11_add [vR 125, vI x, vI y, vI u, vI v] M (A_add M x y u v) := fun σ Q ho h hQ => by
  unfold A_add at hQ
  refine e_X11_add hS (m_strokeWhy hS ho h (m_isRefused hS (fun q => ⟨fun _ => ?_, fun c => absurd rfl c⟩) (fun q => ⟨fun c => absurd c (by decide), fun _ => ?_⟩)))
  · rw [if_pos q] at hQ
    obtain ⟨d, hn, hx, hy, hu, hv⟩ := why_z q
    rw [q]
    have hD := (ho.E d).1
    refine m_act hS ho h d ?_
    intro σ1 w1 k1 r1 F1
    refine m_comes hS ((h.2.2 d).1.ext hD.1 (fun k _ => r1 k)) hn ?_
    intro σ2 d2 f2 g2
    have hD2 : okDw (addD M.D x y u v) := hD.add hn hx hy hu hv
    refine m_plansAnew (G := gG (addD M.D x y u v)) hS hD2.g d2.toG ?_
    intro σ3 z3 c3 p103 pi prow
    have d3 : eD (σ3 127) (addD M.D x y u v) := d2.ext hD2.1 (fun k hk => prow k hk)
    rw [d3.2.2.1]
    refine hQ σ3 ⟨mW.w (w1.ext (fun j hj => ?_) (fun j => ?_)) d, k1.ext ?_ (fun j => ?_), fun _ => ⟨d3, eP.st p103 pi⟩⟩ (F1.trans ((f2.R (by simp)).trans c3.R))
    · rw [c3.2 j (by omega) (by omega) (by omega) (by omega) (by omega) (by omega), f2 125 (by decide)]
    · rw [c3.1 126 (by decide) (by decide) (by omega), f2 126 (by decide)]
    · rw [c3.2 10 (by omega) (by omega) (by omega) (by omega) (by omega) (by omega), f2 125 (by decide)]
    · rw [c3.1 130 (by decide) (by decide) (by omega), f2 130 (by decide)]
  · rw [if_neg q] at hQ
    exact hQ _ (h.t why_ne) (rfu_R _ _)
theorem q_drop {s : Int} (hS : SHP S) : MC S mX11_drop [vR 125, vI s] M (A_drop M s) := fun σ Q ho h hQ => by
  unfold A_drop at hQ
  refine e_X11_drop hS ⟨fun q => ?_, fun q => ?_⟩
  · rw [if_neg (fun c => absurd q (h.dr1 c.1))] at hQ
    exact e_X11_unless hS ⟨fun _ => m_isRefused hS (fun c => absurd c (by decide)) (fun _ => ⟨fun c => absurd c (by decide), fun _ => hQ _ (h.t (by decide)) (rfu_R _ _)⟩), fun c => absurd rfl c⟩
  · have d := h.d q
    have hD := (ho.E d).1
    have hn := hD.1
    have e2 : σ 127 2 = M.D.n := (h.2.2 d).1.2.2.1
    rw [e2]
    refine ⟨inR_s (by omega) (by omega), m_in hS (fun q1 => ⟨fun _ => ?_, fun c => absurd rfl c⟩) (fun q1 => ⟨fun c => absurd c (by decide), fun _ => ?_⟩)⟩
    · rw [if_neg (fun c => q1 ⟨c.2.1, by omega⟩)] at hQ
      exact e_X11_unless hS ⟨fun _ => m_isRefused hS (fun c => absurd c (by decide)) (fun _ => ⟨fun c => absurd c (by decide), fun _ => hQ _ (h.t (by decide)) (rfu_R _ _)⟩), fun c => absurd rfl c⟩
    · rw [if_pos ⟨d, q1.1, by omega⟩] at hQ
      refine e_X11_unless hS ⟨fun c => absurd c (by decide), fun _ => m_isRefused hS (fun _ => ⟨fun _ => ?_, fun c => absurd rfl c⟩) (fun c => absurd rfl c)⟩
      obtain ⟨s, rfl⟩ := nat_of q1.1
      rw [tn_cast] at hQ
      have hs : s < M.D.n := by omega
      refine m_act hS ho h d ?_
      intro σ1 w1 k1 r1 F1
      refine m_leaves hS ((h.2.2 d).1.ext hD.1 (fun k _ => r1 k)) hn hs ?_
      intro σ2 d2 f2 g2
      have hD2 : okDw (dropD M.D s) := hD.drop hs
      refine m_plansAnew (G := gG (dropD M.D s)) hS hD2.g d2.toG ?_
      intro σ3 z3 c3 p103 pi prow
      have d3 : eD (σ3 127) (dropD M.D s) := d2.ext hD2.1 (fun k hk => prow k hk)
      rw [d3.2.2.1]
      refine hQ σ3 ⟨mW.w (w1.ext (fun j hj => ?_) (fun j => ?_)) d, k1.ext ?_ (fun j => ?_), fun _ => ⟨d3, eP.st p103 pi⟩⟩ (F1.trans ((f2.R (by simp)).trans c3.R))
      · rw [c3.2 j (by omega) (by omega) (by omega) (by omega) (by omega) (by omega), f2 125 (by decide)]
      · rw [c3.1 126 (by decide) (by decide) (by omega), f2 126 (by decide)]
      · rw [c3.2 10 (by omega) (by omega) (by omega) (by omega) (by omega) (by omega), f2 125 (by decide)]
      · rw [c3.1 130 (by decide) (by decide) (by omega), f2 130 (by decide)]
theorem b2i_ne (h : mT σ M) : (σ 125 11 = 0 ↔ M.dr = false) := ⟨fun q => dr_f (fun d => h.dr1 d q), h.dr0⟩
theorem q_home {x y : Int} (hS : SHP S) : MC S mX11_home [vR 125, vI x, vI y] M (A_home M x y) := fun σ Q ho h hQ => by
  unfold A_home at hQ
  refine e_X11_home hS (m_isPoint hS rfl (e_X11_unless_ hS ⟨fun q => ?_, fun q => ?_⟩))
  · have d := h.d q
    rw [if_pos d] at hQ
    have hE := ho.E d
    have hD := hE.1
    obtain ⟨a0, a1, a2, a3, a4, a5, a6, a7⟩ := (h.2.2 d).1
    rw [a0]
    by_cases c : (0 ≤ x ∧ x ≤ M.D.sz) ∧ (0 ≤ y ∧ y ≤ M.D.sz)
    · rw [if_pos c]
      rw [if_pos ⟨c.1.1, c.1.2, c.2⟩] at hQ
      refine ⟨fun c => absurd c (by decide), fun _ => m_isRefused hS (fun _ => ⟨fun _ => ?_, fun c => absurd rfl c⟩) (fun c => absurd rfl c)⟩
      refine m_act hS ho h d ?_
      intro σ1 w1 k1 r1 F1
      have F2 : fr [127] σ1 (up2 (up2 σ1 127 3 x) 127 4 y) := (fr.rf.put (by simp)).put (by simp)
      have K : ∀ j, j ≠ 3 → j ≠ 4 → (up2 (up2 σ1 127 3 x) 127 4 y) 127 j = σ 127 j := fun j j1 j2 => by rw [up2_i j2, up2_i j1]; exact r1 j
      have e3 : (up2 (up2 σ1 127 3 x) 127 4 y) 127 3 = x := by rw [up2_i (by decide), up2_s]
      have e4 : (up2 (up2 σ1 127 3 x) 127 4 y) 127 4 = y := up2_s _ _ _ _
      generalize up2 (up2 σ1 127 3 x) 127 4 y = σ2 at F2 K e3 e4
      obtain ⟨k1', k2, k3, k4, k5, k6, k7, k8⟩ := hD
      have ho2 : okDw (homeD M.D x y) := ⟨k1', k2, k3, ⟨by show 0 ≤ x; omega, by show x ≤ M.D.sz; omega⟩, ⟨by show 0 ≤ y; omega, by show y ≤ M.D.sz; omega⟩, k6, k7, k8⟩
      have d2 : eD (σ2 127) (homeD M.D x y) := ⟨by rw [K 0 (by decide) (by decide)]; exact a0, by rw [K 1 (by decide) (by decide)]; exact a1, by rw [K 2 (by decide) (by decide)]; exact a2, e3, e4, by rw [K 5 (by decide) (by decide)]; exact a5, by rw [K 6 (by decide) (by decide)]; exact a6, fun e he => by rw [K _ (by omega) (by omega), K _ (by omega) (by omega)]; exact a7 e he⟩
      have p2 : eP (σ2 127) M.N M.f := (h.2.2 d).2.ext hE.N (fun k k1 k2 => K k (by omega) (by omega))
      refine m_reckons (G := gG (homeD M.D x y)) hS ho2.g d2.toG ?_
      intro σ3 z3 c3
      have e127 : σ3 127 = σ2 127 := funext (c3.1 127 (by decide) (by omega))
      have w3 : wQ σ3 (homeD M.D x y) M.N M.f := ⟨⟨ho2, hE.2.1, hE.2.2⟩, by rw [e127]; exact d2, by rw [e127]; exact p2, z3⟩
      refine m_leaps hS w3 ?_
      refine hQ σ3 ⟨mW.w (w1.ext (fun j hj => ?_) (fun j => ?_)) d, k1.ext ?_ (fun j => ?_), fun _ => ⟨w3.2.1, w3.2.2.1⟩⟩ (F1.trans ((F2.R (by simp)).trans c3.R))
      · rw [c3.2 j (by omega) (by omega) (by omega) (by omega) (by omega) (by omega), F2 125 (by decide)]
      · rw [c3.1 126 (by decide) (by omega), F2 126 (by decide)]
      · rw [c3.2 10 (by omega) (by omega) (by omega) (by omega) (by omega) (by omega), F2 125 (by decide)]
      · rw [c3.1 130 (by decide) (by omega), F2 130 (by decide)]
    · rw [if_neg c]
      rw [if_neg (fun c2 => c ⟨⟨c2.1, c2.2.1⟩, c2.2.2⟩)] at hQ
      exact ⟨fun _ => m_isRefused hS (fun c => absurd c (by decide)) (fun _ => ⟨fun c => absurd c (by decide), fun _ => hQ _ (h.t (by decide)) (rfu_R _ _)⟩), fun c => absurd rfl c⟩
  · rw [if_neg (fun d => h.dr1 d q)] at hQ
    exact m_isRefused hS (fun c => absurd c (by decide)) (fun _ => ⟨fun c => absurd c (by decide), fun _ => hQ _ (h.t (by decide)) (rfu_R _ _)⟩)
theorem q_pace {x y : Int} (hS : SHP S) : MC S mX11_pace [vR 125, vI x, vI y] M (A_pace M x y) := fun σ Q ho h hQ => by
  unfold A_pace at hQ
  have no : ∀ k : Int, k = 1 ∨ k = 2 → (∀ σ' : StT, mT σ' (M.t k) → frR 125 154 σ σ' → Q (-1) σ') → ∀ P : Int → StT → Prop, WPs mX11_isRefused [vR 125, vI k] S σ (fun r33 s33 => (r33 = 0 → P r33 s33) ∧ (¬ (r33 = 0) → Q (-1) s33)) := fun k hk hh P =>
    m_isRefused hS (fun c => absurd c (by omega)) (fun _ => ⟨fun c => absurd c (by decide), fun _ => hh _ (h.t (by omega)) (rfu_R _ _)⟩)
  refine e_X11_pace hS (m_in hS (fun q => ⟨fun _ => e_X11_unless_ hS ⟨fun c => ⟨fun _ => ?_, fun c => absurd rfl c⟩, fun c => ?_⟩, fun c => absurd rfl c⟩) (fun q => ⟨fun c => absurd c (by decide), fun _ => m_in hS (fun q2 => ⟨fun _ => e_X11_unless_ hS ⟨fun c => ⟨fun _ => ?_, fun c => absurd rfl c⟩, fun c => ?_⟩, fun c => absurd rfl c⟩) (fun q2 => ⟨fun c => absurd c (by decide), fun _ => e_X11_unless_ hS ⟨fun c => ⟨fun c => absurd c (by decide), fun _ => ?_⟩, fun c => ?_⟩⟩)⟩))
  · rw [if_pos (h.d c), if_neg (fun c => q c.1)] at hQ
    exact no 2 (by omega) hQ _
  · rw [if_neg (fun d => h.dr1 d c)] at hQ
    exact no 1 (by omega) hQ _
  · rw [if_pos (h.d c), if_neg (fun c => q2 c.2)] at hQ
    exact no 2 (by omega) hQ _
  · rw [if_neg (fun d => h.dr1 d c)] at hQ
    exact no 1 (by omega) hQ _
  · have d := h.d c
    rw [if_pos d, if_pos ⟨q, q2⟩] at hQ
    have hE := ho.E d
    have hD := hE.1
    obtain ⟨a0, a1, a2, a3, a4, a5, a6, a7⟩ := (h.2.2 d).1
    refine m_isRefused hS (fun _ => ⟨fun _ => ?_, fun c => absurd rfl c⟩) (fun c => absurd rfl c)
    refine m_act hS ho h d ?_
    intro σ1 w1 k1 r1 F1
    have F2 : fr [127] σ1 (up2 (up2 σ1 127 5 x) 127 6 y) := (fr.rf.put (by simp)).put (by simp)
    have K : ∀ j, j ≠ 5 → j ≠ 6 → (up2 (up2 σ1 127 5 x) 127 6 y) 127 j = σ 127 j := fun j j1 j2 => by rw [up2_i j2, up2_i j1]; exact r1 j
    have e5 : (up2 (up2 σ1 127 5 x) 127 6 y) 127 5 = x := by rw [up2_i (by decide), up2_s]
    have e6 : (up2 (up2 σ1 127 5 x) 127 6 y) 127 6 = y := up2_s _ _ _ _
    generalize up2 (up2 σ1 127 5 x) 127 6 y = σ2 at F2 K e5 e6
    obtain ⟨k1', k2, k3, k4, k5, k6, k7, k8⟩ := hD
    have ho2 : okDw (paceD M.D x y) := ⟨k1', k2, k3, k4, k5, ⟨by show 1 ≤ x; omega, by show x ≤ 9; omega⟩, ⟨by show 1 ≤ y; omega, by show y ≤ 9; omega⟩, k8⟩
    have d2 : eD (σ2 127) (paceD M.D x y) := ⟨by rw [K 0 (by decide) (by decide)]; exact a0, by rw [K 1 (by decide) (by decide)]; exact a1, by rw [K 2 (by decide) (by decide)]; exact a2, by rw [K 3 (by decide) (by decide)]; exact a3, by rw [K 4 (by decide) (by decide)]; exact a4, e5, e6, fun e he => by rw [K _ (by omega) (by omega), K _ (by omega) (by omega)]; exact a7 e he⟩
    have p2 : eP (σ2 127) M.N M.f := (h.2.2 d).2.ext hE.N (fun k k1 k2 => K k (by omega) (by omega))
    refine m_reckons (G := gG (paceD M.D x y)) hS ho2.g d2.toG ?_
    intro σ3 z3 c3
    have e127 : σ3 127 = σ2 127 := funext (c3.1 127 (by decide) (by omega))
    have w3 : wQ σ3 (paceD M.D x y) M.N M.f := ⟨⟨ho2, hE.2.1, hE.2.2⟩, by rw [e127]; exact d2, by rw [e127]; exact p2, z3⟩
    refine m_allTime hS w3 rfl rfl ?_
    refine hQ σ3 ⟨mW.w (w1.ext (fun j hj => ?_) (fun j => ?_)) d, k1.ext ?_ (fun j => ?_), fun _ => ⟨w3.2.1, w3.2.2.1⟩⟩ (F1.trans ((F2.R (by simp)).trans c3.R))
    · rw [c3.2 j (by omega) (by omega) (by omega) (by omega) (by omega) (by omega), F2 125 (by decide)]
    · rw [c3.1 126 (by decide) (by omega), F2 126 (by decide)]
    · rw [c3.2 10 (by omega) (by omega) (by omega) (by omega) (by omega) (by omega), F2 125 (by decide)]
    · rw [c3.1 130 (by decide) (by omega), F2 130 (by decide)]
  · rw [if_neg (fun d => h.dr1 d c)] at hQ
    exact no 1 (by omega) hQ _
end MKEEP
