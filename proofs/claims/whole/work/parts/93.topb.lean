/-! the class's calls: queries -/
/-- a call of the class: from any store that holds M it answers r.1 and leaves r.2 -/
def CS (S : ShT) (y : ME) (as : List AV) (M : Ms) (r : Int × Ms) : Prop := ∀ (σ : StT) (Q : Int → StT → Prop), cT σ M → (∀ σ' : StT, cT σ' r.2 → frR 1 125 σ σ' → Q r.1 σ') → WPs y as S σ Q
/-- the rows beside: the other drawing, its meetings, the other plan, the tree's -/
theorem cT.scr {σ σ' : StT} {M : Ms} (h : cT σ M) (hf : ∀ b, (b < 49 ∨ (51 ≤ b ∧ b < 106) ∨ b = 124) → ∀ j, σ' b j = σ b j) : cT σ' M := by
  obtain ⟨h0, h1, h2, h3, h4, h5, h6, h7, h8, h9⟩ := h
  refine ⟨h0, by rw [hf 2 (by omega)]; exact h1, fun x hx => by rw [hf 3 (by omega)]; exact h2 x hx, by rw [hf 1 (by omega)]; exact h3, by rw [hf 1 (by omega)]; exact h4, by rw [hf 124 (by omega)]; exact h5, fun q => by rw [hf 124 (by omega)]; exact h6 q, ?_, fun u hu => by rw [hf 30 (by omega)]; exact h8 u hu, fun q => (h9 q).ext (fun b b1 b2 b3 b4 j => hf b (by omega) j)⟩
  obtain ⟨a1, a2, w, a3, a4, a5⟩ := h7
  refine ⟨by rw [hf 53 (by omega)]; exact a1, a2, w, a3, by rw [hf 53 (by omega)]; exact a4, fun i hi' => ?_⟩
  obtain ⟨a, b⟩ := a5 i hi'
  have hc : (w + 10 - i) % 10 < 10 := Nat.mod_lt _ (by omega)
  exact ⟨a.ext (fun j => hf _ (by omega) j) (fun j => hf _ (by omega) j) (fun j => hf _ (by omega) j), b.ext (hf _ (by omega) 4) (fun j => hf _ (by omega) j)⟩
theorem cT.t {σ : StT} {M : Ms} {k : Int} (h : cT σ M) (hk : k = 0 ∨ k = 1 ∨ k = 2 ∨ k = 3 ∨ k = 5) : cT (up2 σ 1 13 k) (M.t k) := by
  obtain ⟨h0, h1, h2, h3, h4, h5, h6, h7, h8, h9⟩ := h
  have F : frR 1 2 σ (up2 σ 1 13 k) := frR.rf.put (by omega) (by omega)
  refine ⟨⟨h0.1, h0.2.1, h0.2.2.1, h0.2.2.2.1, h0.2.2.2.2.1, ?_⟩, by rw [F 2 (by omega)]; exact h1, fun x hx => by rw [F 3 (by omega)]; exact h2 x hx, by rw [up2_i (by decide)]; exact h3, up2_s _ _ _ _, by rw [F 124 (by omega)]; exact h5, fun q => ?_, h7.ext F (by omega), fun u hu => by rw [F 30 (by omega)]; exact h8 u hu, fun q => (h9 q).ext (fun b b1 b2 b3 b4 j => F b (by omega) j)⟩
  · show k = 0 ∨ k = 1 ∨ k = 2 ∨ k = 3 ∨ k = 4 ∨ k = 5; omega
  · replace q : k = 4 := q; omega
section TOPB
variable {S : ShT} {σ : StT} {Q : Int → StT → Prop} {M : Ms}
theorem c_told {v : Int} {σ1 : StT} (hS : SHP S) (h : cT σ1 M) (F : frR 1 125 σ σ1) (hQ : ∀ σ' : StT, cT σ' (tld M v).2 → frR 1 125 σ σ' → Q (tld M v).1 σ') : WPs mX10_told [vR 1, vI v] S σ1 Q :=
  e_X10_told hS (hQ _ (h.t (by omega)) (F.put (by omega) (by omega)))
theorem c_ref {k : Int} {σ1 : StT} (hS : SHP S) (h : cT σ1 M) (F : frR 1 125 σ σ1) (hk : k = 0 ∨ k = 1 ∨ k = 2 ∨ k = 3 ∨ k = 5) (hQ : ∀ σ' : StT, cT σ' (rfs M k).2 → frR 1 125 σ σ' → Q (rfs M k).1 σ') : WPs mX10_refused [vR 1, vI k] S σ1 Q :=
  e_X10_refused hS (hQ _ (h.t hk) (F.put (by omega) (by omega)))
theorem cT.dr1 (h : cT σ M) (c : M.dr = true) : σ 1 12 ≠ 0 := by rw [h.2.2.2.1, c]; decide
theorem cT.dr0 (h : cT σ M) (c : M.dr = false) : σ 1 12 = 0 := by rw [h.2.2.2.1, c]; rfl
theorem cT.w (h : cT σ M) (c : M.dr = true) : cW σ M.D M.N M.f := h.2.2.2.2.2.2.2.2.2 c
theorem dr_f {x : Bool} (h : ¬ x = true) : x = false := by cases x <;> simp_all
theorem c_fault (hS : SHP S) : CS S mX10_fault [vR 1] M (A_fault M) := fun σ Q h hQ => e_X10_fault hS (by rw [h.2.2.2.2.2.1]; exact hQ σ h frR.rf)
theorem c_trouble (hS : SHP S) : CS S mX10_trouble [vR 1] M (A_trouble M) := fun σ Q h hQ => e_X10_trouble hS (by rw [h.2.2.2.2.1]; exact hQ σ h frR.rf)
theorem c_where (hS : SHP S) : CS S mX10_where [vR 1] M (A_where M) := fun σ Q h hQ => by
  refine e_X10_where hS ?_
  rw [h.2.2.2.2.1]
  have hQ := hQ σ h frR.rf
  unfold A_where at hQ
  refine ⟨fun q => ?_, fun q => ?_⟩
  · rw [if_neg q] at hQ; exact hQ
  · rw [if_pos q] at hQ; rw [h.2.2.2.2.2.2.1 q]; exact hQ
theorem c_size {w : Int} (hS : SHP S) : CS S mX10_size [vR 1, vI w] M (A_size M w) := fun σ Q h hQ => by
  have hQ := hQ σ h frR.rf
  unfold A_size at hQ
  refine e_X10_size hS ⟨fun q => ?_, fun q => ?_, fun q => ?_, fun q => ?_⟩
  · rw [if_neg (by omega), if_neg (by omega), if_neg (by omega)] at hQ; exact hQ
  · rw [if_pos q] at hQ; rw [h.2.1]; exact hQ
  · rw [if_neg (by omega), if_pos q] at hQ; rw [h.2.2.2.2.2.2.2.1.1]; exact hQ
  · rw [if_neg (by omega), if_neg (by omega), if_pos q] at hQ
    refine ⟨fun c => ?_, fun c => ?_⟩
    · have d : ¬ M.dr = true := fun d => h.dr1 d c
      rw [if_neg d] at hQ; exact hQ
    · by_cases d : M.dr = true
      · rw [if_pos d] at hQ
        have := (h.w d).2.2.2.1.1.1
        rw [AP_lenP] at this
        rw [this]; exact hQ
      · exact absurd (h.dr0 (dr_f d)) c
theorem c_about {w : Int} (hS : SHP S) : CS S mX10_about [vR 1, vI w] M (A_about M w) := fun σ Q h hQ => by
  unfold A_about at hQ
  refine e_X10_about hS ⟨fun c => ?_, fun c => ?_⟩
  · have d : M.dr = true := by
      by_cases d : M.dr = true
      · exact d
      · exact absurd (h.dr0 (dr_f d)) c
    have W := h.w d
    have hn := W.2.1.1.g.1
    by_cases r : 0 ≤ w ∧ w ≤ 10
    · rw [if_pos ⟨d, r⟩] at hQ
      refine ⟨fun q => by omega, fun q => ?_, fun q => ?_, fun q => ?_, fun q => ?_, fun q => ?_, fun q => ?_, fun q => ?_, fun q => ?_, fun q => ?_, fun q => ?_, fun q => ?_⟩
      · subst q; rw [W.1.2.1]; exact c_told hS h frR.rf hQ
      · subst q; rw [W.1.2.2.1]; exact c_told hS h frR.rf hQ
      · subst q; rw [W.1.1]; exact c_told hS h frR.rf hQ
      · subst q; rw [W.1.2.2.2.1]; exact c_told hS h frR.rf hQ
      · subst q; rw [W.1.2.2.2.2.1]; exact c_told hS h frR.rf hQ
      · subst q; rw [W.1.2.2.2.2.2.1]; exact c_told hS h frR.rf hQ
      · subst q; rw [W.1.2.2.2.2.2.2.1]; exact c_told hS h frR.rf hQ
      · subst q; refine e_X3_count hS isM_a ?_
        rw [W.2.2.1.1.1]; exact c_told hS h frR.rf hQ
      · subst q; refine e_X3_parts hS isM_a ?_
        rw [W.2.2.1.2.1.1]; exact c_told hS h frR.rf hQ
      · subst q; exact sp_odds hS isM_a hn W.2.2.1 (c_told hS h frR.rf hQ)
      · subst q; rw [W.2.2.2.2.2.1.1]; exact c_told hS h frR.rf hQ
    · rw [if_neg (fun z => r z.2)] at hQ
      refine ⟨fun q => c_ref hS h frR.rf (by omega) hQ, fun q => by omega, fun q => by omega, fun q => by omega, fun q => by omega, fun q => by omega, fun q => by omega, fun q => by omega, fun q => by omega, fun q => by omega, fun q => by omega, fun q => by omega⟩
  · have d : ¬ M.dr = true := fun d => h.dr1 d c
    rw [if_neg (fun z => d z.1)] at hQ
    exact c_ref hS h frR.rf (by omega) hQ
theorem c_hasStroke {s : Int} (hS : SHP S) (h : cT σ M) (h1 : M.dr = true → 0 ≤ s → s < M.D.n → Q 1 σ) (h0 : ¬ (M.dr = true ∧ 0 ≤ s ∧ s < M.D.n) → Q 0 σ) : WPs mX10_hasStroke [vR 1, vI s] S σ Q := by
  refine e_X10_hasStroke hS ⟨fun c => h0 (fun z => h.dr1 z.1 c), fun c => ?_⟩
  have d : M.dr = true := by
    by_cases d : M.dr = true
    · exact d
    · exact absurd (h.dr0 (dr_f d)) c
  rw [(h.w d).1.1]
  exact ⟨fun q => h0 (fun z => by omega), fun q => ⟨fun q2 => h0 (fun z => by omega), fun q2 => h1 d (by omega) (by omega)⟩⟩
theorem c_hasPart {s : Int} (hS : SHP S) (h : cT σ M) (h1 : M.dr = true → 0 ≤ s → s < pcn M.g → Q 1 σ) (h0 : ¬ (M.dr = true ∧ 0 ≤ s ∧ s < pcn M.g) → Q 0 σ) : WPs mX10_hasPart [vR 1, vI s] S σ Q := by
  refine e_X10_hasPart hS ⟨fun c => h0 (fun z => h.dr1 z.1 c), fun c => ?_⟩
  have d : M.dr = true := by
    by_cases d : M.dr = true
    · exact d
    · exact absurd (h.dr0 (dr_f d)) c
  have hp : σ (7 + 5) 2 = (pcn M.g : Int) := (h.w d).2.2.1.2.1.1
  refine ⟨fun q => h0 (fun z => by omega), fun q => e_X3_parts hS isM_a ?_⟩
  rw [hp]
  exact ⟨fun q2 => h0 (fun z => by omega), fun q2 => h1 d (by omega) (by omega)⟩
theorem c_hasPlace {s : Int} (hS : SHP S) (h : cT σ M) (h1 : M.dr = true → 0 ≤ s → s < M.N → Q 1 σ) (h0 : ¬ (M.dr = true ∧ 0 ≤ s ∧ s < M.N) → Q 0 σ) : WPs mX10_hasPlace [vR 1, vI s] S σ Q := by
  refine e_X10_hasPlace hS ⟨fun c => h0 (fun z => h.dr1 z.1 c), fun c => ?_⟩
  have d : M.dr = true := by
    by_cases d : M.dr = true
    · exact d
    · exact absurd (h.dr0 (dr_f d)) c
  rw [(h.w d).2.2.2.2.2.2.1]
  exact ⟨fun q => h0 (fun z => by omega), fun q => ⟨fun q2 => h0 (fun z => by omega), fun q2 => h1 d (by omega) (by omega)⟩⟩
theorem c_stroke {s w : Int} (hS : SHP S) : CS S mX10_stroke [vR 1, vI s, vI w] M (A_stroke M s w) := fun σ Q h hQ => by
  unfold A_stroke at hQ
  refine e_X10_stroke hS (c_hasStroke hS h (fun d s0 s1 => ⟨fun _ => ?_, fun q => absurd q (by decide)⟩) (fun c => ⟨fun q => absurd rfl q, fun _ => ?_⟩))
  · have W := h.w d
    have hn := W.2.1.1.1
    obtain ⟨s, rfl⟩ := nat_of s0
    have hs : s < M.D.n := by omega
    have hs' : s < (gG M.D).1 := hs
    have x1 := W.1.2.2.2.2.2.2.2 (2 * s) (by omega)
    have x2 := W.1.2.2.2.2.2.2.2 (2 * s + 1) (by omega)
    have m1 : σ (7 + 1 + 1) (2 * s) = mt (gG M.D) (2 * s) := W.2.2.1.1.2.1 (2 * s) (by show 2 * s < 2 * M.D.n; omega)
    have m2 : σ (7 + 1 + 1) (2 * s + 1) = mt (gG M.D) (2 * s + 1) := W.2.2.1.1.2.1 (2 * s + 1) (by show 2 * s + 1 < 2 * M.D.n; omega)
    rw [tn_cast] at hQ
    rw [show (2 * (s : Int)).toNat = 2 * s by omega, show (2 * (s : Int) + 1).toNat = 2 * s + 1 by omega]
    by_cases r : 0 ≤ w ∧ w ≤ 6
    · rw [if_pos ⟨d, s0, s1, r⟩] at hQ
      refine ⟨fun q => by omega, fun q => ⟨inR_s (by omega) (by omega), ⟨by omega, by omega⟩, ?_⟩, fun q => ⟨inR_s (by omega) (by omega), ⟨by omega, by omega⟩, ?_⟩, fun q => ⟨inR_s (by omega) (by omega), inR_s (by omega) (by omega), ⟨by omega, by omega⟩, ?_⟩, fun q => ⟨inR_s (by omega) (by omega), inR_s (by omega) (by omega), ⟨by omega, by omega⟩, ?_⟩, fun q => ?_, fun q => ⟨inR_s (by omega) (by omega), e_X3_of hS isM_a ⟨⟨by omega, by omega⟩, ?_⟩⟩, fun q => ⟨inR_s (by omega) (by omega), inR_s (by omega) (by omega), e_X3_of hS isM_a ⟨⟨by omega, by omega⟩, ?_⟩⟩⟩
      · subst q; rw [x1.1]; exact c_told hS h frR.rf hQ
      · subst q; rw [x1.2]; exact c_told hS h frR.rf hQ
      · subst q; rw [x2.1]; exact c_told hS h frR.rf hQ
      · subst q; rw [x2.2]; exact c_told hS h frR.rf hQ
      · subst q; exact sp_strokeLength hS W.wT hs' (c_told hS h frR.rf hQ)
      · subst q; rw [show (2 * (s : Int)).toNat = 2 * s by omega, m1]; exact c_told hS h frR.rf hQ
      · subst q; rw [show (2 * (s : Int) + 1).toNat = 2 * s + 1 by omega, m2]; exact c_told hS h frR.rf hQ
    · rw [if_neg (fun z => r z.2.2.2)] at hQ
      exact ⟨fun q => c_ref hS h frR.rf (by omega) hQ, fun q => by omega, fun q => by omega, fun q => by omega, fun q => by omega, fun q => by omega, fun q => by omega, fun q => by omega⟩
  · rw [if_neg (fun z => c ⟨z.1, z.2.1, z.2.2.1⟩)] at hQ
    exact c_ref hS h frR.rf (by omega) hQ
end TOPB
