/-! Model: queries of what is laid -/
section MQB
variable {S : ShT} {σ : StT} {Q : Int → StT → Prop} {M : Ms}
theorem m_ask {v : Int} (hS : SHP S) (ho : okM M) (h : mT σ M) (h0 : (¬ (M.dr = true ∧ v ≠ 0)) → ∀ σ' : StT, mT σ' (M.t 1) → frR 125 154 σ σ' → Q 0 σ') (h1 : M.dr = true → v ≠ 0 → ∀ σ' : StT, mT σ' (M.t 0) → wQ σ' M.D M.N M.f → frR 125 154 σ σ' → Q 1 σ') : WPs mX11_isAsked [vR 125, vI v] S σ Q :=
  m_isAsked hS ho h h0 (fun d hv σ' a b c => h1 d hv σ' a ⟨ho.E d, (a.2.2 d).1, (a.2.2 d).2, b⟩ c)
theorem m_ask0 (hS : SHP S) (ho : okM M) (h : mT σ M) (h0 : ∀ σ' : StT, mT σ' (M.t 1) → frR 125 154 σ σ' → Q 0 σ') : WPs mX11_isAsked [vR 125, vI 0] S σ Q :=
  m_ask hS ho h (fun _ => h0) (fun _ c => absurd rfl c)
theorem m_ask1 (hS : SHP S) (ho : okM M) (h : mT σ M) (h0 : M.dr = false → ∀ σ' : StT, mT σ' (M.t 1) → frR 125 154 σ σ' → Q 0 σ') (h1 : M.dr = true → ∀ σ' : StT, mT σ' (M.t 0) → wQ σ' M.D M.N M.f → frR 125 154 σ σ' → Q 1 σ') : WPs mX11_isAsked [vR 125, vI 1] S σ Q :=
  m_ask hS ho h (fun q => h0 (dr_f (fun d => q ⟨d, by decide⟩))) (fun d _ => h1 d)
theorem mT.s0 (h : mT σ M) : mT (up2 σ 125 0 0) M := by
  have e : (up2 σ 125 0 0) 127 = σ 127 := funext (fun j => up2_a (by decide))
  exact ⟨h.1.ext (fun j hj => up2_i (by omega)) (fun j => up2_a (by decide)), h.2.1.ext (up2_i (by decide)) (fun j => up2_a (by decide)), fun q => by rw [e]; exact h.2.2 q⟩
theorem R0 : frR 125 154 σ (up2 σ 125 0 0) := frR.rf.put (by omega) (by omega)
theorem q_fault (hS : SHP S) : MC S mX11_fault [vR 125] M (A_fault M) := fun σ Q ho h hQ => e_X11_fault hS (by rw [h.1.2.2.2.2.1]; exact hQ _ h.s0 R0)
theorem q_trouble (hS : SHP S) : MC S mX11_trouble [vR 125] M (A_trouble M) := fun σ Q ho h hQ => e_X11_trouble hS (by rw [h.1.2.2.2.1]; exact hQ _ h.s0 R0)
theorem q_where (hS : SHP S) : MC S mX11_where [vR 125] M (A_where M) := fun σ Q ho h hQ => by
  have hQ := hQ _ h.s0 R0
  unfold A_where at hQ
  refine e_X11_where hS ?_
  rw [h.1.2.2.2.1]
  refine ⟨fun q => ?_, fun q => ?_⟩
  · rw [if_neg q] at hQ; exact hQ
  · rw [if_pos q] at hQ; rw [h.1.2.2.2.2.2 q]; exact hQ
theorem q_size {w : Int} (hS : SHP S) : MC S mX11_size [vR 125, vI w] M (A_size M w) := fun σ Q ho h hQ => by
  unfold A_size at hQ
  have tail : ∀ σ1 : StT, mT σ1 M → frR 125 154 σ σ1 → (w = 2 → M.dr = true → σ1 125 31 = PN M.g (pcn M.g)) → AWs mX11_size 21 [(0, vR 125), (1, vI w)] [] S σ1 Q := fun σ1 h1 F1 hp => by
    have hQ := hQ σ1 h1 F1
    refine t_X11_size_21 hS ⟨fun q => ?_, fun q => ?_, fun q => ?_, fun q => ?_⟩
    · rw [if_neg (by omega), if_neg (by omega), if_neg (by omega)] at hQ; exact hQ
    · rw [if_pos q] at hQ; rw [h1.1.1]; exact hQ
    · rw [if_neg (by omega), if_pos q] at hQ; rw [h1.2.1.1]; exact hQ
    · rw [if_neg (by omega), if_neg (by omega), if_pos q] at hQ
      refine ⟨fun c => ?_, fun c => ?_⟩
      · have d : ¬ M.dr = true := fun d => h1.dr1 d c
        rw [if_neg d] at hQ; exact hQ
      · by_cases d : M.dr = true
        · rw [if_pos d] at hQ
          rw [hp q d]; exact hQ
        · exact absurd (h1.dr0 (dr_f d)) c
  refine e_X11_size hS ⟨fun q => tail _ h.s0 R0 (fun c => absurd c q), fun q => ⟨fun c => tail _ h.s0 R0 (fun _ d => absurd c (h.dr1 d)), fun c => ?_⟩⟩
  have d : M.dr = true := by
    by_cases d : M.dr = true
    · exact d
    · exact absurd (h.dr0 (dr_f d)) c
  refine m_reckons (G := M.g) hS (ho.G d) (h.s0.2.2 d).1.toG ?_
  intro σ1 hz hc
  exact tail σ1 (h.s0.fC hc) (R0.trans hc.R) (fun _ _ => by rw [hz.2.1.1.1, AP_lenP])
theorem q_about {w : Int} (hS : SHP S) : MC S mX11_about [vR 125, vI w] M (A_about M w) := fun σ Q ho h hQ => by
  unfold A_about at hQ
  refine e_X11_about hS (m_in hS (fun q => ?_) (fun q => ?_))
  · rw [if_neg (fun c => q c.2)] at hQ
    exact m_ask0 hS ho h (fun σ' a b => ⟨fun c => absurd rfl c, fun _ => hQ σ' a b⟩)
  · refine m_ask1 hS ho h (fun d σ' a b => ?_) (fun d σ' a b c => ?_)
    · rw [if_neg (fun c => by rw [d] at c; exact absurd c.1 (by decide))] at hQ
      exact ⟨fun c => absurd rfl c, fun _ => hQ σ' a b⟩
    · rw [if_pos ⟨d, q⟩] at hQ
      have hQ := hQ σ' a c
      unfold tld at hQ
      simp only at hQ
      obtain ⟨a0, a1, a2, a3, a4, a5, a6, a7⟩ := b.2.1
      refine ⟨fun _ => ⟨fun q2 => ⟨⟨by omega, by omega⟩, ?_⟩, fun q2 => ?_, fun q2 => ?_, fun q2 => ?_, fun q2 => ?_⟩, fun c => absurd c (by decide)⟩
      · obtain ⟨x, rfl⟩ := nat_of q.1
        rw [tn_cast]
        have hx : x = 0 ∨ x = 1 ∨ x = 2 ∨ x = 3 ∨ x = 4 ∨ x = 5 ∨ x = 6 := by omega
        rcases hx with rfl | rfl | rfl | rfl | rfl | rfl | rfl
        · rw [a0]; exact hQ
        · rw [a1]; exact hQ
        · rw [a2]; exact hQ
        · rw [a3]; exact hQ
        · rw [a4]; exact hQ
        · rw [a5]; exact hQ
        · rw [a6]; exact hQ
      · subst q2; rw [b.2.2.2.1.1]; exact hQ
      · subst q2; rw [b.2.2.2.1.2.1]; exact hQ
      · subst q2; exact m_oddAll hS b hQ
      · subst q2
        have : σ' 125 50 = M.T.length := b.2.2.2.2.2.2.2.1
        rw [this]; exact hQ
theorem q_meeting {m w : Int} (hS : SHP S) : MC S mX11_meeting [vR 125, vI m, vI w] M (A_meeting M m w) := fun σ Q ho h hQ => by
  unfold A_meeting at hQ
  refine e_X11_meeting hS (m_in hS (fun q => ?_) (fun q => ?_))
  · rw [if_neg (fun c => q c.2.2.2)] at hQ
    exact m_ask0 hS ho h (fun σ' a b => ⟨fun c => absurd rfl c, fun _ => hQ σ' a b⟩)
  · refine m_ask1 hS ho h (fun d σ' a b => ?_) (fun d σ' a b c => ?_)
    · rw [if_neg (fun c => by rw [d] at c; exact absurd c.1 (by decide))] at hQ
      exact ⟨fun c => absurd rfl c, fun _ => hQ σ' a b⟩
    · have h48 := b.m48
      have e26 : σ' 125 26 = mcn M.g := b.2.2.2.1.1
      have h48' : mcn M.g ≤ 48 := h48
      rw [e26]
      refine ⟨fun _ => ⟨inR_s (by omega) (by omega), m_in hS (fun q2 => ?_) (fun q2 => ?_)⟩, fun c => absurd c (by decide)⟩
      · rw [if_neg (fun c => q2 ⟨c.2.1, by omega⟩)] at hQ
        exact ⟨fun c => absurd rfl c, fun _ => m_no hS (by decide) a (fun σ2 a2 b2 => hQ σ2 a2 (c.trans b2))⟩
      · rw [if_pos ⟨d, q2.1, by omega, q⟩] at hQ
        have hQ := hQ σ' a c
        unfold tld at hQ
        simp only at hQ
        obtain ⟨m, rfl⟩ := nat_of q2.1
        have hmm : m < mcn (gG M.D) := by have : mcn M.g = mcn (gG M.D) := rfl; omega
        obtain ⟨z1, z2, z3⟩ := b.2.2.2.1.2.2.2 m hmm
        rw [tn_cast] at hQ ⊢
        rw [z1, z2, z3]
        have ex : sX M.g (hm M.D) (m : Int) = (gG M.D).2.2.1 (fe (gG M.D) m) := by unfold sX; rw [if_neg (by omega), tn_cast]; rfl
        have ey : sY M.g (hm M.D) (m : Int) = (gG M.D).2.2.2 (fe (gG M.D) m) := by unfold sY; rw [if_neg (by omega), tn_cast]; rfl
        refine ⟨fun _ => ⟨fun q3 => ⟨⟨by omega, by omega⟩, ?_⟩, fun q3 => ⟨⟨by omega, by omega⟩, ?_⟩, fun q3 => ⟨⟨by omega, by omega⟩, ?_⟩, fun q3 => ⟨⟨by omega, by omega⟩, ?_⟩, fun q3 => ⟨⟨by omega, by omega⟩, ?_⟩⟩, fun c => absurd c (by decide)⟩
        · rw [if_neg (by omega), if_neg (by omega), if_neg (by omega), if_neg (by omega)] at hQ; exact hQ
        · rw [if_pos q3] at hQ
          refine m_endX hS b.rG b.n (fe_ok hmm).1 ?_
          rw [← ex]; exact hQ
        · rw [if_neg (by omega), if_pos q3] at hQ
          refine m_endY hS b.rG b.n (fe_ok hmm).1 ?_
          rw [← ey]; exact hQ
        · rw [if_neg (by omega), if_neg (by omega), if_pos q3] at hQ; exact hQ
        · rw [if_neg (by omega), if_neg (by omega), if_neg (by omega), if_pos q3] at hQ; exact hQ
theorem q_part {p w : Int} (hS : SHP S) : MC S mX11_part [vR 125, vI p, vI w] M (A_part M p w) := fun σ Q ho h hQ => by
  unfold A_part at hQ
  refine e_X11_part hS (m_in hS (fun q => ?_) (fun q => ?_))
  · rw [if_neg (fun c => q c.2.2.2)] at hQ
    exact m_ask0 hS ho h (fun σ' a b => ⟨fun c => absurd rfl c, fun _ => hQ σ' a b⟩)
  · refine m_ask1 hS ho h (fun d σ' a b => ?_) (fun d σ' a b c => ?_)
    · rw [if_neg (fun c => by rw [d] at c; exact absurd c.1 (by decide))] at hQ
      exact ⟨fun c => absurd rfl c, fun _ => hQ σ' a b⟩
    · have hpn : pcn M.g ≤ M.D.n := pcn_le_n (gG M.D)
      have hn := ho.n d
      have e27 : σ' 125 27 = pcn M.g := b.2.2.2.1.2.1
      rw [e27]
      refine ⟨fun _ => ⟨inR_s (by omega) (by omega), m_in hS (fun q2 => ?_) (fun q2 => ?_)⟩, fun c => absurd c (by decide)⟩
      · rw [if_neg (fun c => q2 ⟨c.2.1, by omega⟩)] at hQ
        exact ⟨fun c => absurd rfl c, fun _ => m_no hS (by decide) a (fun σ2 a2 b2 => hQ σ2 a2 (c.trans b2))⟩
      · rw [if_pos ⟨d, q2.1, by omega, q⟩] at hQ
        have hQ := hQ σ' a c
        unfold tld at hQ
        simp only at hQ
        obtain ⟨p, rfl⟩ := nat_of q2.1
        have hp : p < pcn (gG M.D) := by have : pcn M.g = pcn (gG M.D) := rfl; omega
        rw [tn_cast] at hQ
        refine ⟨fun _ => ⟨fun q3 => ?_, fun q3 => ?_, fun q3 => ?_, fun q3 => ?_, fun q3 => ?_, fun q3 => ?_⟩, fun c => absurd c (by decide)⟩
        · rw [if_neg (by omega), if_neg (by omega), if_neg (by omega), if_neg (by omega), if_neg (by omega)] at hQ
          exact m_pairsOf hS b hp hQ
        · rw [if_pos q3] at hQ
          exact m_meetingsOf hS b hp hQ
        · rw [if_neg (by omega), if_pos q3] at hQ
          exact m_strokesOf hS b hQ
        · rw [if_neg (by omega), if_neg (by omega), if_pos q3] at hQ
          exact m_meetingsOf hS b hp hQ
        · rw [if_neg (by omega), if_neg (by omega), if_neg (by omega), if_pos q3] at hQ
          exact m_trailsOf hS b hp hQ
        · rw [if_neg (by omega), if_neg (by omega), if_neg (by omega), if_neg (by omega), if_pos q3] at hQ
          exact m_meetingsOf hS b hp hQ
theorem q_pair {i w : Int} (hS : SHP S) : MC S mX11_pair [vR 125, vI i, vI w] M (A_pair M i w) := fun σ Q ho h hQ => by
  unfold A_pair at hQ
  refine e_X11_pair hS (m_in hS (fun q => ?_) (fun q => ?_))
  · rw [if_neg (fun c => q c.2.2.2)] at hQ
    exact m_ask0 hS ho h (fun σ' a b => ⟨fun c => absurd rfl c, fun _ => hQ σ' a b⟩)
  · refine m_ask1 hS ho h (fun d σ' a b => ?_) (fun d σ' a b c => ?_)
    · rw [if_neg (fun c => by rw [d] at c; exact absurd c.1 (by decide))] at hQ
      exact ⟨fun c => absurd rfl c, fun _ => hQ σ' a b⟩
    · obtain ⟨e31, h24⟩ := b.P
      replace e31 : σ' 125 31 = PN M.g (pcn M.g) := e31
      replace h24 : PN M.g (pcn M.g) ≤ 24 := h24
      rw [e31]
      refine ⟨fun _ => ⟨inR_s (by omega) (by omega), m_in hS (fun q2 => ?_) (fun q2 => ?_)⟩, fun c => absurd c (by decide)⟩
      · rw [if_neg (fun c => q2 ⟨c.2.1, by omega⟩)] at hQ
        exact ⟨fun c => absurd rfl c, fun _ => m_no hS (by decide) a (fun σ2 a2 b2 => hQ σ2 a2 (c.trans b2))⟩
      · rw [if_pos ⟨d, q2.1, by omega, q⟩] at hQ
        have hQ := hQ σ' a c
        unfold tld at hQ
        simp only at hQ
        obtain ⟨i, rfl⟩ := nat_of q2.1
        have hi : i < PN (gG M.D) (pcn (gG M.D)) := by have : PN M.g (pcn M.g) = PN (gG M.D) (pcn (gG M.D)) := rfl; omega
        obtain ⟨⟨r1, r2⟩, -, -⟩ := b.pr hi
        obtain ⟨z, z1, z2, z3⟩ := PN_in (G := gG M.D) (i := i) _ hi
        have e137 := b.2.2.2.2.1.2.1 z i z1 z2 z3
        have e138 := b.2.2.2.2.1.2.2 z z1
        have hpn := pcn_le_n (gG M.D)
        have hn := b.n
        have ci : (∃ p, p < pcn M.g ∧ (i : Int) = cutI M.g p) ↔ (i : Int) = cutI M.g z := cut_iff z1 z2 z3
        rw [tn_cast] at hQ ⊢
        rw [r1, r2, e137, tn_cast, e138]
        refine ⟨fun _ => ⟨fun q3 => ⟨⟨by omega, by omega⟩, ⟨by omega, by omega⟩, fun q4 => ?_, fun q4 => ?_⟩, fun q3 => ⟨⟨by omega, by omega⟩, ?_⟩, fun q3 => ⟨⟨by omega, by omega⟩, ?_⟩, fun q3 => ?_⟩, fun c => absurd c (by decide)⟩
        · rw [if_neg (by omega), if_neg (by omega), if_neg (by omega), if_neg (fun c => q4 (ci.mp c).symm)] at hQ; exact hQ
        · rw [if_neg (by omega), if_neg (by omega), if_neg (by omega), if_pos (ci.mpr q4.symm)] at hQ; exact hQ
        · rw [if_pos q3] at hQ; exact hQ
        · rw [if_neg (by omega), if_pos q3] at hQ; exact hQ
        · rw [if_neg (by omega), if_neg (by omega), if_pos q3] at hQ
          exact m_farOf hS b hi hQ
theorem q_walk {p k : Int} (hS : SHP S) : MC S mX11_walk [vR 125, vI p, vI k] M (A_walk M p k) := fun σ Q ho h hQ => by
  unfold A_walk at hQ
  refine e_X11_walk hS ⟨fun q => ?_, fun q => ?_⟩
  · rw [if_neg (fun c => absurd c.2.2.2 (by omega))] at hQ
    exact m_ask0 hS ho h (fun σ' a b => ⟨fun c => absurd rfl c, fun _ => hQ σ' a b⟩)
  · refine m_ask1 hS ho h (fun d σ' a b => ?_) (fun d σ' a b c => ?_)
    · rw [if_neg (fun c => by rw [d] at c; exact absurd c.1 (by decide))] at hQ
      exact ⟨fun c => absurd rfl c, fun _ => hQ σ' a b⟩
    · have hpn : pcn M.g ≤ M.D.n := pcn_le_n (gG M.D)
      have hn := ho.n d
      have e27 : σ' 125 27 = pcn M.g := b.2.2.2.1.2.1
      rw [e27]
      refine ⟨fun _ => ⟨inR_s (by omega) (by omega), m_in hS (fun q2 => ?_) (fun q2 => ?_)⟩, fun c => absurd c (by decide)⟩
      · rw [if_neg (fun c => q2 ⟨c.2.1, by omega⟩)] at hQ
        exact ⟨fun c => absurd rfl c, fun _ => m_no hS (by decide) a (fun σ2 a2 b2 => hQ σ2 a2 (c.trans b2))⟩
      · rw [if_pos ⟨d, q2.1, by omega, by omega⟩] at hQ
        have hQ := hQ σ' a c
        unfold tld at hQ
        simp only at hQ
        obtain ⟨p, rfl⟩ := nat_of q2.1
        obtain ⟨k, rfl⟩ := nat_of (show 0 ≤ k by omega)
        have hp : p < pcn (gG M.D) := by have : pcn M.g = pcn (gG M.D) := rfl; omega
        have e1 := b.2.2.2.2.2.1 p (by omega)
        have e2 := b.2.2.2.2.2.1 (p + 1) (by omega)
        have hsl := WA_sl (gG M.D) p
        have hl := WA_len (G := gG M.D) (P := p + 1) b.n (by omega)
        have hmo := WA_mono (G := gG M.D) (show p + 1 ≤ pcn (gG M.D) by omega)
        rw [tn_cast, tn_cast] at hQ
        replace hQ : Q (if (k : Int) < (wkW (gG M.D) p).length then wcd (gG M.D) ((wkW (gG M.D) p).getD k (0, 0)) else -2) σ' := hQ
        rw [show ((p : Int) + 1).toNat = p + 1 from rfl, tn_cast, e1, e2]
        refine ⟨fun _ => ⟨inR_s (by omega) (by omega), ⟨by omega, by omega⟩, ⟨by omega, by omega⟩, inR_s (by omega) (by omega), fun q3 => ?_, fun q3 => ⟨⟨by omega, by omega⟩, inR_s (by omega) (by omega), ⟨by omega, by omega⟩, ?_⟩⟩, fun c => absurd c (by decide)⟩
        · rw [if_neg (by omega)] at hQ; exact hQ
        · rw [if_pos (by omega)] at hQ
          rw [show (((WA (gG M.D) p).length : Int) + (k : Int)).toNat = (WA (gG M.D) p).length + k by omega, b.2.2.2.2.2.2.1 _ (by omega), (WA_pre (p := p + 1) (by omega) (by omega)).1, WA_at]
          exact hQ
end MQB
