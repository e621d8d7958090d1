/-! Model: started, better, exchanged -/
theorem eP.st {g : Nat → Int} {n : Nat} (h0 : g 103 = n) (h : ∀ i, i < n → g (104 + i) = (i : Int) ∧ g (128 + i) = 0) : eP g n (fun i => 2 * i) := by
  refine ⟨h0, fun i hi => ?_⟩
  obtain ⟨a, b⟩ := h i hi
  refine ⟨a.trans ?_, b.trans ?_⟩
  · show (i : Int) = ((2 * i / 2 : Nat) : Int); omega
  · show (0 : Int) = ((2 * i % 2 : Nat) : Int); omega
section MQF
variable {S : ShT} {σ : StT} {Q : Int → StT → Prop} {M : Ms} {D : Dw} {N : Nat} {f : Nat → Nat}
/-- the row was laid aside, changed, and taken back -/
theorem mT.back {σ0 σ1 σ2 σ3 : StT} (h : mT σ0 M) (ho : okM M) (h129 : ∀ k, k < 152 → σ1 129 k = σ0 127 k) (f1 : fr [129] σ0 σ1) (h12 : ∀ b, b = 126 ∨ b = 129 ∨ b = 130 → ∀ j, σ2 b j = σ1 b j) (g12 : ∀ j, j = 5 ∨ j = 11 ∨ j = 1 ∨ j = 2 ∨ j = 3 ∨ j = 10 → σ2 125 j = σ1 125 j) (h127 : ∀ k, k < 152 → σ3 127 k = σ2 129 k) (f3 : fr [127] σ2 σ3) : mT σ3 M := by
  have e : ∀ k, k < 152 → σ3 127 k = σ0 127 k := fun k hk => by rw [h127 k hk, h12 129 (by omega), h129 k hk]
  refine ⟨h.1.ext (fun j hj => by rw [f3 125 (by decide), g12 j (by omega), f1 125 (by decide)]) (fun j => by rw [f3 126 (by decide), h12 126 (by omega), f1 126 (by decide)]), h.2.1.ext (by rw [f3 125 (by decide), g12 10 (by omega), f1 125 (by decide)]) (fun j => by rw [f3 130 (by decide), h12 130 (by omega), f1 130 (by decide)]), fun d => ?_⟩
  exact ⟨(h.2.2 d).1.ext (ho.n d) (fun k hk => e k (by omega)), (h.2.2 d).2.ext (ho.E d).N (fun k _ hk => e k hk)⟩
theorem okM.t (h : okM M) {k : Int} (hk : k = 0 ∨ k = 1 ∨ k = 2 ∨ k = 3 ∨ k = 4 ∨ k = 5) : okM (M.t k) := ⟨h.1, h.2.1, h.2.2.1, h.2.2.2.1, h.2.2.2.2.1, hk⟩
theorem q_started (hS : SHP S) : MC S mX11_started [vR 125] M (A_started M) := fun σ Q ho h hQ => by
  unfold A_started at hQ
  refine e_X11_started hS (m_ask1 hS ho h (fun d σ' a b => ?_) (fun d σ0 a b c => ?_))
  · rw [if_neg (by rw [d]; decide)] at hQ
    exact ⟨fun c => absurd rfl c, fun _ => hQ σ' a b⟩
  · rw [if_pos d] at hQ
    refine ⟨fun _ => m_laysAside hS ?_, fun c => absurd c (by decide)⟩
    intro σ1 h1 f1
    have w1 : wQ σ1 M.D M.N M.f := b.ext (fun b hb => f1 b (by simp; omega)) (fun j _ => f1 125 (by decide) j)
    refine m_plansAnew (G := gG M.D) hS w1.1.G w1.rG ?_
    intro σ2 z2 f2 p103 pi prow
    have w2 : wQ σ2 M.D (TT M.D).length (fun i => 2 * i) := ⟨okE.st w1.1.1, w1.2.1.ext w1.1.1.1 (fun k hk => prow k hk), eP.st p103 pi, z2⟩
    refine m_leaps hS w2 (m_takesBack hS ?_)
    intro σ3 h3 f3
    refine hQ σ3 (a.back (ho.t (by omega)) h1 f1 (fun b hb => f2.1 b (by omega) (by omega) (by omega)) (fun j hj => f2.2 j (by omega) (by omega) (by omega) (by omega) (by omega) (by omega)) h3 f3) ?_
    exact c.trans ((f1.R (by simp)).trans (f2.R.trans (f3.R (by simp))))
theorem q_better {w : Int} (hS : SHP S) : MC S mX11_better [vR 125, vI w] M (A_better M w) := fun σ Q ho h hQ => by
  unfold A_better at hQ
  refine e_X11_better hS (m_in hS (fun q => ?_) (fun q => ?_))
  · rw [if_neg (fun c => q c.2)] at hQ
    exact m_ask0 hS ho h (fun σ' a b => ⟨fun c => absurd rfl c, fun _ => hQ σ' a b⟩)
  · refine m_ask1 hS ho h (fun d σ' a b => ?_) (fun d σ0 a b c => ?_)
    · rw [if_neg (fun c => by rw [d] at c; exact absurd c.1 (by decide))] at hQ
      exact ⟨fun c => absurd rfl c, fun _ => hQ σ' a b⟩
    · rw [if_pos ⟨d, q⟩] at hQ
      refine ⟨fun _ => m_laysAside hS ?_, fun c => absurd c (by decide)⟩
      intro σ1 h1 f1
      have w1 : wQ σ1 M.D M.N M.f := b.ext (fun b hb => f1 b (by simp; omega)) (fun j _ => f1 125 (by decide) j)
      refine m_betters hS w1 ?_
      intro σ2 w2 r2
      refine m_leaps hS w2 (m_takesBack hS ?_)
      intro σ3 h3 f3
      have hQ := hQ σ3 (a.back (ho.t (by omega)) h1 f1 (fun b hb => r2.1 b (by simp; omega)) (fun j hj => r2.1 125 (by decide) j) h3 f3) (c.trans ((f1.R (by simp)).trans ((r2.1.R (by simp)).trans (f3.R (by simp)))))
      unfold tld at hQ
      simp only at hQ
      refine ⟨fun q2 => ?_, fun q2 => ?_⟩
      · rw [if_neg q2] at hQ; exact hQ
      · rw [if_pos q2] at hQ; exact hQ
theorem m_isRun {i k : Int} (hS : SHP S) (ho : okM M) (h : mT σ M) (hQ : Q (if M.dr = true ∧ (0 ≤ i ∧ i < M.N) ∧ (0 ≤ k ∧ k < M.N) then 1 else 0) σ) : WPs mX11_isRun [vR 125, vI i, vI k] S σ Q := by
  refine e_X11_isRun hS ⟨fun q => ?_, fun q => ?_⟩
  · rw [if_neg (fun c => absurd q (h.dr1 c.1))] at hQ; exact hQ
  · have d := h.d q
    have hN := (ho.E d).N
    have e2 : σ 127 103 = M.N := (h.2.2 d).2.1
    rw [e2]
    refine ⟨inR_s (by omega) (by omega), m_in hS (fun q1 => ⟨fun _ => ?_, fun c => absurd rfl c⟩) (fun q1 => ⟨fun c => absurd c (by decide), fun _ => ⟨inR_s (by omega) (by omega), m_in hS (fun q2 => ⟨fun _ => ?_, fun c => absurd rfl c⟩) (fun q2 => ⟨fun c => absurd c (by decide), fun _ => ?_⟩)⟩⟩)⟩
    · rw [if_neg (fun c => q1 ⟨c.2.1.1, by omega⟩)] at hQ; exact hQ
    · rw [if_neg (fun c => q2 ⟨c.2.2.1, by omega⟩)] at hQ; exact hQ
    · rw [if_pos ⟨d, by omega, by omega⟩] at hQ; exact hQ
theorem mT.rp {σ1 : StT} {g : Nat → Nat} (h : mT σ M) (ho : okM M) (d : M.dr = true) (hr : rP σ σ1) (hp : eP (σ1 127) M.N M.f) : mT σ1 M :=
  ⟨h.1.ext (fun j _ => hr.1 125 (by decide) j) (hr.1 126 (by decide)), h.2.1.ext (hr.1 125 (by decide) _) (hr.1 130 (by decide)), fun _ => ⟨(h.2.2 d).1.ext (ho.n d) (fun k hk => hr.2 k (by omega)), hp⟩⟩
theorem q_exchanged {i k : Int} (hS : SHP S) : MC S mX11_exchanged [vR 125, vI i, vI k] M (A_exchanged M i k) := fun σ Q ho h hQ => by
  unfold A_exchanged at hQ
  refine e_X11_exchanged hS (m_isRun hS ho h ?_)
  by_cases c : M.dr = true ∧ (0 ≤ i ∧ i < M.N) ∧ (0 ≤ k ∧ k < M.N)
  · rw [if_pos c]
    obtain ⟨d, ci, ck⟩ := c
    refine ⟨fun c => absurd c (by decide), fun _ => ⟨fun q => ?_, fun q => ?_⟩⟩
    · rw [if_neg (fun c => absurd c.2.2.1 (by omega))] at hQ
      exact m_ask0 hS ho h (fun σ' a b => ⟨fun c => absurd rfl c, fun _ => hQ σ' a b⟩)
    · rw [if_pos ⟨d, ci.1, by omega, ck.2⟩] at hQ
      refine m_ask1 hS ho h (fun d' => absurd d (by rw [d']; decide)) (fun _ σ0 a b c => ⟨fun _ => m_leaps hS b ?_, fun c => absurd c (by decide)⟩)
      obtain ⟨i, rfl⟩ := nat_of ci.1
      obtain ⟨k, rfl⟩ := nat_of ck.1
      rw [tn_cast, tn_cast] at hQ
      have hik : i ≤ k := by omega
      have hk : k < M.N := by omega
      have hc := chg_ok (G := gG M.D) (H := hm M.D) (T := TT M.D) (f := M.f) hik hk
      refine m_exchanges hS b hik hk ?_
      intro σ1 w1 r1
      have t1 := trv_i (T := TT M.D) (N := M.N) (f := M.f) b.1.G b.1.H b.1.N
      have t2 := trv_i (T := TT M.D) (N := M.N) (f := rvs i k M.f) b.1.G b.1.H b.1.N
      refine m_leaps hS w1 ⟨inR_s (by omega) (by omega), m_exchanges hS w1 hik hk ?_⟩
      intro σ2 w2 r2
      rw [rvs_rvs] at w2
      have := hQ σ2 (a.rp (g := M.f) (ho.t (by omega)) d (r1.trans r2) w2.2.2.1) (c.trans (((r1.trans r2).1).R (by simp)))
      rw [hc]; exact this
  · rw [if_neg c]
    rw [if_neg (fun c2 => c ⟨c2.1, ⟨c2.2.1, by omega⟩, ⟨by omega, c2.2.2.2⟩⟩)] at hQ
    exact ⟨fun _ => m_ask0 hS ho h (fun σ' a b => ⟨fun c => absurd rfl c, fun _ => hQ σ' a b⟩), fun c => absurd rfl c⟩
end MQF
