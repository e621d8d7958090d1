/-! the reference: distances, meetings -/
def rG (σ : StT) (G : Geo) : Prop := σ 127 2 = G.1 ∧ σ 127 1 = G.2.1 ∧ ∀ e, e < 2 * G.1 → σ 127 (7 + 2 * e) = G.2.2.1 e ∧ σ 127 (8 + 2 * e) = G.2.2.2 e
theorem rG.ext {σ σ' : StT} {G : Geo} (h : rG σ G) (h1 : ∀ j, σ' 127 j = σ 127 j) : rG σ' G := ⟨by rw [h1]; exact h.1, by rw [h1]; exact h.2.1, fun e he => by rw [h1, h1]; exact h.2.2 e he⟩
section MMEET
variable {S : ShT} {σ : StT} {Q : Int → StT → Prop} {G : Geo}
theorem m_endX {e : Nat} (hS : SHP S) (h : rG σ G) (hn : G.1 ≤ 24) (he : e < 2 * G.1) (hQ : Q (G.2.2.1 e) σ) : WPs mX11_endX [vR 125, vI (e : Int)] S σ Q := by
  refine e_X11_endX hS ?_
  rw [show (7 + 2 * (e : Int)).toNat = 7 + 2 * e by omega, (h.2.2 e he).1]
  exact ⟨inR_s (by omega) (by omega), inR_s (by omega) (by omega), ⟨by omega, by omega⟩, hQ⟩
theorem m_endY {e : Nat} (hS : SHP S) (h : rG σ G) (hn : G.1 ≤ 24) (he : e < 2 * G.1) (hQ : Q (G.2.2.2 e) σ) : WPs mX11_endY [vR 125, vI (e : Int)] S σ Q := by
  refine e_X11_endY hS ?_
  rw [show (7 + 2 * (e : Int) + 1).toNat = 8 + 2 * e by omega, (h.2.2 e he).2]
  exact ⟨inR_s (by omega) (by omega), inR_s (by omega) (by omega), inR_s (by omega) (by omega), ⟨by omega, by omega⟩, hQ⟩
theorem m_abs {v : Int} (hS : SHP S) (h0 : -1000000 ≤ v) (h1 : v ≤ 1000000) (hQ : Q (iab v) σ) : WPs mX11_abs [vI v] S σ Q := by
  refine e_X11_abs hS ⟨fun q => ?_, fun q => ⟨inR_s (by omega) (by omega), ?_⟩⟩
  · rw [iab_0 q] at hQ; exact hQ
  · unfold iab at hQ; rw [if_neg q] at hQ; exact hQ
theorem m_apart {a b : Nat} (hS : SHP S) (h : rG σ G) (hok : okG G) (ha : a < 2 * G.1) (hb : b < 2 * G.1) (hQ : Q (ds G a b) σ) : WPs mX11_apart [vR 125, vI (a : Int), vI (b : Int)] S σ Q := by
  have hn := hok.1
  have x1 := hok.2.2.2.1 a
  have x2 := hok.2.2.2.1 b
  have y1 := hok.2.2.2.2 a
  have y2 := hok.2.2.2.2 b
  have h5 := iab_le (a := G.2.2.1 a - G.2.2.1 b) (m := 200) (by omega) (by omega)
  have h6 := iab_le (a := G.2.2.2 a - G.2.2.2 b) (m := 200) (by omega) (by omega)
  have h7 := iab_pos (G.2.2.1 a - G.2.2.1 b)
  have h8 := iab_pos (G.2.2.2 a - G.2.2.2 b)
  exact e_X11_apart hS (m_endX hS h hn ha (m_endX hS h hn hb ⟨inR_s (by omega) (by omega), m_abs hS (by omega) (by omega) (m_endY hS h hn ha (m_endY hS h hn hb ⟨inR_s (by omega) (by omega), m_abs hS (by omega) (by omega) ⟨inR_s (by omega) (by omega), hQ⟩⟩))⟩))
theorem semi.put {R : Nat → Nat → Prop} {n : Nat} {f : Nat → Nat} {a b : Nat} (h : semi R n f) (ha : a < n) (hb : b < n) (hR : R a b) (hl : f b < f a) : semi R n (fun i => if i = a then f b else f i) := by
  refine ⟨fun i hi => ?_, fun g hg i hi => ?_⟩
  · by_cases c : i = a
    · simp only [if_pos c]; have := h.1 a ha; omega
    · simp only [if_neg c]; exact h.1 i hi
  · by_cases c : i = a
    · simp only [if_pos c]; rw [h.2 g hg b hb, c]; exact (hg a b ha hb hR).symm
    · simp only [if_neg c]; exact h.2 g hg i hi
theorem sm_put {f : Nat → Nat} {a v : Nat} : ∀ {n : Nat}, a < n → v < f a → sm (fun i => if i = a then v else f i) n < sm f n
  | 0, h, _ => by omega
  | n + 1, h, hv => by
    show sm (fun i => if i = a then v else f i) n + (if n = a then v else f n) < sm f n + f n
    by_cases c : n = a
    · subst c
      rw [if_pos rfl, sm_ext (n := n) (f := fun i => if i = n then v else f i) (g := f) (fun i hi => by rw [if_neg (by omega)]) n (Nat.le_refl _)]; omega
    · rw [if_neg c]; have := sm_put (f := f) (a := a) (v := v) (n := n) (by omega) hv; omega
/-- the labels till nothing changes -/
theorem m_label {n : Nat} (hS : SHP S) (hn : n = G.1) (hok : okG G) (hQ : ∀ (σ' : StT) (f : Nat → Nat), (∀ i, i < 2 * n → σ' 131 i = f i) → LAB (nr G) (2 * n) f → fr [131] σ σ' → WPs mX11_numbers [vR 131, vI ((2 * n : Nat) : Int)] S σ' (fun r121 s121 => AWs mX11_laysMeetings 129 [(0, vR 125), (1, vI ((2 * n : Nat) : Int)), (3, vI 0)] [] S (up2 s121 125 26 r121) Q)) (hG : rG σ G) : ∀ (s : Nat) (σ1 : StT) (f : Nat → Nat), sm f (2 * n) = s → (∀ i, i < 2 * n → σ1 131 i = f i) → semi (nr G) (2 * n) f → fr [131] σ σ1 → AWs mX11_laysMeetings 31 [(0, vR 125), (1, vI ((2 * n : Nat) : Int)), (2, vI 1)] [] S σ1 Q := by
  have hn24 : n ≤ 24 := by rw [hn]; exact hok.1
  intro s
  induction s using Nat.strongRecOn with
  | ind s ih =>
    intro σ1 f hs hf hse F
    refine t_X11_laysMeetings_31 hS ⟨fun q => absurd q (by decide), fun _ => ?_⟩
    -- what a pass has done so far
    refine lupg (α := Int × StT) (I := fun e x => 0 ≤ e ∧ e ≤ ((2 * n : Nat) : Int) ∧ fr [131] σ x.2 ∧ ∃ g : Nat → Nat, (∀ i, i < 2 * n → x.2 131 i = g i) ∧ semi (nr G) (2 * n) g ∧ ((x.1 = 0 ∧ sm g (2 * n) = s ∧ ∀ a b : Nat, (a : Int) < e → b < 2 * n → nr G a b → ¬ g b < g a) ∨ (x.1 = 1 ∧ sm g (2 * n) < s))) (W := fun e x => AWs mX11_laysMeetings 39 [(0, vR 125), (1, vI ((2 * n : Nat) : Int)), (2, vI x.1), (3, vI e)] [] S x.2 Q) ((2 * n : Nat) : Int) ?_ ?_ 0 (0, σ1) ⟨by omega, by omega, F, f, hf, hse, Or.inl ⟨rfl, hs, fun a b h => by omega⟩⟩
    · rintro e ⟨v, σ2⟩ ⟨e0, e1, F2, g, g1, g2, g3⟩ hge
      refine t_X11_laysMeetings_39 hS ⟨fun _ => ?_, fun q => absurd hge q⟩
      rcases g3 with ⟨z, -, cl⟩ | ⟨z, lt⟩
      · simp only at z F2 g1
        subst z
        refine t_X11_laysMeetings_31 hS ⟨fun _ => hQ σ2 g g1 ⟨g2.1, fun a b ha hb hR => ?_, g2.2⟩ F2, fun q => absurd rfl q⟩
        have c1 := cl a b (by omega) hb hR
        have c2 := cl b a (by omega) ha (by unfold nr at hR ⊢; rw [ds_sym]; exact hR)
        omega
      · simp only at z
        subst z
        exact ih _ lt σ2 g rfl g1 g2 F2
    · rintro e ⟨v, σ2⟩ ⟨e0, e1, F2, g, g1, g2, g3⟩ hlt kk
      obtain ⟨e, rfl⟩ := nat_of e0
      simp only at F2 g1 g3
      refine t_X11_laysMeetings_39 hS ⟨fun q => absurd q (by omega), fun _ => ?_⟩
      refine lupg (α := Int × StT) (I := fun o x => 0 ≤ o ∧ o ≤ ((2 * n : Nat) : Int) ∧ fr [131] σ x.2 ∧ ∃ g : Nat → Nat, (∀ i, i < 2 * n → x.2 131 i = g i) ∧ semi (nr G) (2 * n) g ∧ ((x.1 = 0 ∧ sm g (2 * n) = s ∧ (∀ a b : Nat, a < e → b < 2 * n → nr G a b → ¬ g b < g a) ∧ ∀ b : Nat, (b : Int) < o → nr G e b → ¬ g b < g e) ∨ (x.1 = 1 ∧ sm g (2 * n) < s))) (W := fun o x => AWs mX11_laysMeetings 47 [(0, vR 125), (1, vI ((2 * n : Nat) : Int)), (2, vI x.1), (3, vI (e : Int)), (4, vI o)] [] S x.2 Q) ((2 * n : Nat) : Int) ?_ ?_ 0 (v, σ2) ⟨by omega, by omega, F2, g, g1, g2, ?_⟩
      · rintro o ⟨w, σ3⟩ ⟨o0, o1, F3, k, k1, k2, k3⟩ hge2
        refine t_X11_laysMeetings_47 hS ⟨fun _ => ⟨inR_s (by omega) (by omega), kk (w, σ3) ⟨by omega, by omega, F3, k, k1, k2, ?_⟩⟩, fun q => absurd hge2 q⟩
        rcases k3 with ⟨z, eq, c1, c2⟩ | z
        · refine Or.inl ⟨z, eq, fun a b ha hb hR => ?_⟩
          by_cases c : a = e
          · subst c; exact c2 b (by omega) hR
          · exact c1 a b (by omega) hb hR
        · exact Or.inr z
      · rintro o ⟨w, σ3⟩ ⟨o0, o1, F3, k, k1, k2, k3⟩ hlt2 kk2
        obtain ⟨o, rfl⟩ := nat_of o0
        simp only at F3 k1 k3
        have h3 : rG σ3 G := hG.ext (fun j => F3 127 (by decide) j)
        refine t_X11_laysMeetings_47 hS ⟨fun q => absurd q (by omega), fun _ => m_apart hS h3 hok (by omega) (by omega) ?_⟩
        simp only
        rw [h3.2.1, tn_cast, tn_cast, k1 e (by omega), k1 o (by omega)]
        have nxt : (nr G e o → ¬ k o < k e) → inR ((o : Int) + 1) ∧ AWs mX11_laysMeetings 47 [(0, vR 125), (1, vI ((2 * n : Nat) : Int)), (2, vI w), (3, vI (e : Int)), (4, vI ((o : Int) + 1))] [] S σ3 Q := fun hc => by
          refine ⟨inR_s (by omega) (by omega), kk2 (w, σ3) ⟨by omega, by omega, F3, k, k1, k2, ?_⟩⟩
          rcases k3 with ⟨z, eq, c1, c2⟩ | z
          · refine Or.inl ⟨z, eq, c1, fun b hb hR => ?_⟩
            by_cases c : b = o
            · subst c; exact hc hR
            · exact c2 b (by omega) hR
          · exact Or.inr z
        refine ⟨fun q => nxt (fun hR => absurd q (by unfold nr at hR; omega)), fun q => ⟨⟨by omega, by omega⟩, ⟨by omega, by omega⟩, fun q2 => nxt (fun _ => by omega), fun q2 => ⟨⟨by omega, by omega⟩, ⟨by omega, by omega⟩, inR_s (by omega) (by omega), kk2 (1, up2 σ3 131 e (k o : Int)) ⟨by omega, by omega, F3.put (by simp), fun i => if i = e then k o else k i, fun i hi => ?_, k2.put (by omega) (by omega) (by unfold nr; omega) (by omega), Or.inr ⟨rfl, ?_⟩⟩⟩⟩⟩
        · show (up2 σ3 131 e (k o : Int)) 131 i = (((if i = e then k o else k i) : Nat) : Int)
          by_cases c : i = e
          · subst c; rw [up2_s, if_pos rfl]
          · rw [up2_i c, if_neg c]; exact k1 i hi
        · have := sm_put (f := k) (a := e) (v := k o) (n := 2 * n) (by omega) (by omega)
          rcases k3 with ⟨-, eq, -⟩ | ⟨-, z⟩ <;> omega
      · rcases g3 with ⟨z, eq, cl⟩ | z
        · exact Or.inl ⟨z, eq, fun a b ha hb hR => cl a b (by omega) hb hR, fun b hb => by omega⟩
        · exact Or.inr z
end MMEET
