/-! the reference: parts; all of laysMeetings -/
def mM (σ : StT) (G : Geo) : Prop := σ 125 26 = mcn G ∧ σ 125 27 = pcn G ∧ (∀ e, e < 2 * G.1 → σ 131 e = mt G e) ∧ (∀ k, k < mcn G → σ 132 k = fe G k ∧ σ 133 k = ecn G k ∧ σ 134 k = pt G k)
theorem mM.ext {σ σ' : StT} {G : Geo} (h : mM σ G) (h1 : σ' 125 26 = σ 125 26) (h2 : σ' 125 27 = σ 125 27) (h3 : ∀ b, 131 ≤ b → b < 135 → ∀ j, σ' b j = σ b j) : mM σ' G := by
  obtain ⟨a1, a2, a3, a4⟩ := h
  refine ⟨h1.trans a1, h2.trans a2, fun e he => by rw [h3 131 (by omega) (by omega)]; exact a3 e he, fun k hk => ?_⟩
  rw [h3 132 (by omega) (by omega), h3 133 (by omega) (by omega), h3 134 (by omega) (by omega)]; exact a4 k hk
theorem semi.put2 {R : Nat → Nat → Prop} {n : Nat} {f : Nat → Nat} {a b : Nat} (h : semi R n f) (ha : a < n) (hb : b < n) (hR : R b a) (hl : f b < f a) : semi R n (fun i => if i = a then f b else f i) := by
  refine ⟨fun i hi => ?_, fun g hg i hi => ?_⟩
  · by_cases c : i = a
    · simp only [if_pos c]; have := h.1 a ha; omega
    · simp only [if_neg c]; exact h.1 i hi
  · by_cases c : i = a
    · simp only [if_pos c]; rw [h.2 g hg b hb, c]; exact hg b a hb ha hR
    · simp only [if_neg c]; exact h.2 g hg i hi
section MPART
variable {S : ShT} {σ : StT} {Q : Int → StT → Prop} {G : Geo}
theorem m_plabel (hS : SHP S) (hn24 : G.1 ≤ 24) (hQ : ∀ (σ' : StT) (f : Nat → Nat), (∀ i, i < mcn G → σ' 134 i = f i) → LAB (kr G) (mcn G) f → fr [134] σ σ' → WPs mX11_numbers [vR 134, vI (mcn G : Int)] S σ' (fun r151 s151 => Q 0 (up2 s151 125 27 r151))) (h1 : σ 127 2 = G.1) (h26 : σ 125 26 = mcn G) (h131 : ∀ e, e < 2 * G.1 → σ 131 e = mt G e) : ∀ (s : Nat) (σ1 : StT) (f : Nat → Nat), sm f (mcn G) = s → (∀ i, i < mcn G → σ1 134 i = f i) → semi (kr G) (mcn G) f → fr [134] σ σ1 → AWs mX11_laysParts 25 [(0, vR 125), (1, vI 1)] [] S σ1 Q := by
  have hml := mcn_le G
  intro s
  induction s using Nat.strongRecOn with
  | ind s ih =>
    intro σ1 f hs hf hse F
    refine t_X11_laysParts_25 hS ⟨fun q => absurd q (by decide), fun _ => ?_⟩
    refine lupg (α := Int × StT) (I := fun e x => 0 ≤ e ∧ e ≤ (G.1 : Int) ∧ fr [134] σ x.2 ∧ ∃ g : Nat → Nat, (∀ i, i < mcn G → x.2 134 i = g i) ∧ semi (kr G) (mcn G) g ∧ ((x.1 = 0 ∧ sm g (mcn G) = s ∧ ∀ a : Nat, (a : Int) < e → g (mt G (2 * a)) = g (mt G (2 * a + 1))) ∨ (x.1 = 1 ∧ sm g (mcn G) < s))) (W := fun e x => AWs mX11_laysParts 33 [(0, vR 125), (1, vI x.1), (2, vI e)] [] S x.2 Q) (G.1 : Int) ?_ ?_ 0 (0, σ1) ⟨by omega, by omega, F, f, hf, hse, Or.inl ⟨rfl, hs, fun a h => by omega⟩⟩
    · rintro e ⟨v, σ2⟩ ⟨e0, e1, F2, g, g1, g2, g3⟩ hge
      simp only at F2 g1 g3
      refine t_X11_laysParts_33 hS ⟨fun _ => ?_, fun q => absurd (by simp only; rw [F2 127 (by decide), h1]; exact hge) q⟩
      rcases g3 with ⟨z, -, cl⟩ | ⟨z, lt⟩
      · subst z
        refine t_X11_laysParts_25 hS ⟨fun _ => ?_, fun q => absurd rfl q⟩
        simp only
        rw [F2 125 (by decide), h26]
        refine hQ σ2 g g1 ⟨g2.1, fun a b ha hb hR => ?_, g2.2⟩ F2
        obtain ⟨t, ht, rfl, rfl⟩ := hR
        exact cl t (by omega)
      · subst z
        exact ih _ lt σ2 g rfl g1 g2 F2
    · rintro e ⟨v, σ2⟩ ⟨e0, e1, F2, g, g1, g2, g3⟩ hlt kk
      obtain ⟨e, rfl⟩ := nat_of e0
      simp only at F2 g1 g3
      have l1 : mt G (2 * e) < mcn G := mt_lt (by omega)
      have l2 : mt G (2 * e + 1) < mcn G := mt_lt (by omega)
      have e1' : σ2 131 (2 * e) = mt G (2 * e) := by rw [F2 131 (by decide)]; exact h131 _ (by omega)
      have e2' : σ2 131 (2 * e + 1) = mt G (2 * e + 1) := by rw [F2 131 (by decide)]; exact h131 _ (by omega)
      have hkr : kr G (mt G (2 * e)) (mt G (2 * e + 1)) := ⟨e, by omega, rfl, rfl⟩
      refine t_X11_laysParts_33 hS ⟨fun q => absurd q (by simp only; rw [F2 127 (by decide), h1]; omega), fun _ => ?_⟩
      simp only
      rw [show (2 * (e : Int)).toNat = 2 * e by omega, show (2 * (e : Int) + 1).toNat = 2 * e + 1 by omega, e1', e2']
      refine ⟨inR_s (by omega) (by omega), ⟨by omega, by omega⟩, fun x hx => ⟨inR_s (by omega) (by omega), inR_s (by omega) (by omega), ⟨by omega, by omega⟩, fun y hy => ?_⟩⟩
      subst hx
      subst hy
      rw [tn_cast, tn_cast, g1 _ l1, g1 _ l2]
      have put : ∀ a b : Nat, a < mcn G → b < mcn G → (kr G a b ∨ kr G b a) → g b < g a → (b = mt G (2 * e) ∧ a = mt G (2 * e + 1) ∨ a = mt G (2 * e) ∧ b = mt G (2 * e + 1)) → ∀ σ3 : StT, (∀ i, σ3 134 i = if i = a then (g b : Int) else σ2 134 i) → fr [134] σ2 σ3 → inR ((e : Int) + 1) ∧ AWs mX11_laysParts 33 [(0, vR 125), (1, vI 1), (2, vI ((e : Int) + 1))] [] S σ3 Q := fun a b ha hb hR hl _ σ3 h3 F3 => by
        refine ⟨inR_s (by omega) (by omega), kk (1, σ3) ⟨by omega, by omega, F2.trans F3, fun i => if i = a then g b else g i, fun i hi => ?_, ?_, Or.inr ⟨rfl, ?_⟩⟩⟩
        · show σ3 134 i = (((if i = a then g b else g i) : Nat) : Int)
          rw [h3 i]
          by_cases c : i = a
          · rw [if_pos c, if_pos c]
          · rw [if_neg c, if_neg c]; exact g1 i hi
        · rcases hR with hR | hR
          · exact g2.put ha hb hR hl
          · exact g2.put2 ha hb hR hl
        · have := sm_put (f := g) (a := a) (v := g b) (n := mcn G) ha hl
          rcases g3 with ⟨-, eq, -⟩ | ⟨-, z⟩ <;> omega
      refine ⟨⟨by omega, by omega⟩, ⟨by omega, by omega⟩, fun q => ⟨inR_s (by omega) (by omega), kk (v, σ2) ⟨by omega, by omega, F2, g, g1, g2, ?_⟩⟩, fun q => ⟨⟨by omega, by omega⟩, ⟨by omega, by omega⟩, fun q2 => ⟨⟨by omega, by omega⟩, fun x hx => ⟨⟨by omega, by omega⟩, ⟨by omega, by omega⟩, ?_⟩⟩, fun q2 => ⟨⟨by omega, by omega⟩, fun x hx => ⟨⟨by omega, by omega⟩, ⟨by omega, by omega⟩, ?_⟩⟩⟩⟩
      · rcases g3 with ⟨z, eq, cl⟩ | z
        · refine Or.inl ⟨z, eq, fun a ha => ?_⟩
          by_cases c : a = e
          · subst c; omega
          · exact cl a (by omega)
        · exact Or.inr z
      · subst hx
        have hne : mt G (2 * e) ≠ mt G (2 * e + 1) := fun z => q (by rw [z])
        refine put (mt G (2 * e)) (mt G (2 * e + 1)) l1 l2 (Or.inl hkr) (by omega) (Or.inr ⟨rfl, rfl⟩) _ (fun i => ?_) ((fr.rf.put (by simp)).put (by simp))
        by_cases c : i = mt G (2 * e + 1)
        · subst c; rw [up2_s, if_neg (fun z => hne z.symm), g1 _ l2]
        · rw [up2_i c]
          by_cases c2 : i = mt G (2 * e)
          · subst c2; rw [up2_s, if_pos rfl]
          · rw [up2_i c2, if_neg c2]
      · subst hx
        have hne : mt G (2 * e) ≠ mt G (2 * e + 1) := fun z => q (by rw [z])
        refine put (mt G (2 * e + 1)) (mt G (2 * e)) l2 l1 (Or.inr hkr) (by omega) (Or.inl ⟨rfl, rfl⟩) _ (fun i => ?_) ((fr.rf.put (by simp)).put (by simp))
        by_cases c : i = mt G (2 * e + 1)
        · subst c; rw [up2_s, if_pos rfl]
        · rw [up2_i c, if_neg c]
          by_cases c2 : i = mt G (2 * e)
          · subst c2; rw [up2_s, g1 _ l1]
          · rw [up2_i c2]
end MPART
