/-! reading a text: what it comes to; Reader -/
abbrev PF : Type := Int × Nat
def bd {α β : Type} (r : PF ⊕ α) (k : α → PF ⊕ β) : PF ⊕ β := match r with
  | .inl e => .inl e
  | .inr a => k a
noncomputable def pWh (b : Nat → Int) (n s : Nat) (lo hi : Int) : PF ⊕ (Int × Nat) := if tK b n s = 2 then (if lo ≤ tV b n s ∧ tV b n s ≤ hi then .inr (tV b n s, tN b n s) else .inl (2, tS b n s)) else .inl (1, tS b n s)
noncomputable def pWd (b : Nat → Int) (n s w : Nat) : PF ⊕ Nat := if isW b n s w = true then .inr (tN b n s) else .inl (1, tS b n s)
/-- has it a sheet, a home, a pace; the drawing so far -/
abbrev Pst : Type := Bool × Bool × Bool × Dw
noncomputable def pSheet (b : Nat → Int) (n s : Nat) (P : Pst) : PF ⊕ (Pst × Nat) :=
  bd (pWd b n s 4) (fun s1 => bd (pWh b n s1 1 200) (fun z => bd (pWd b n z.2 5) (fun s3 => bd (pWh b n s3 0 50) (fun j => .inr ((true, P.2.1, P.2.2.1, mkD P.2.2.2.n z.1 j.1 P.2.2.2.hx P.2.2.2.hy P.2.2.2.dn P.2.2.2.up P.2.2.2.X P.2.2.2.Y), j.2)))))
noncomputable def pStroke (b : Nat → Int) (n s : Nat) (P : Pst) : PF ⊕ (Pst × Nat) :=
  bd (pWh b n s 0 P.2.2.2.sz) (fun x => bd (pWh b n x.2 0 P.2.2.2.sz) (fun y => bd (pWh b n y.2 0 P.2.2.2.sz) (fun u => bd (pWh b n u.2 0 P.2.2.2.sz) (fun v => if x.1 = u.1 ∧ y.1 = v.1 then .inl (3, tS b n u.2) else .inr ((P.1, P.2.1, P.2.2.1, addD P.2.2.2 x.1 y.1 u.1 v.1), v.2)))))
noncomputable def pHome (b : Nat → Int) (n s : Nat) (P : Pst) : PF ⊕ (Pst × Nat) :=
  bd (pWh b n s 0 P.2.2.2.sz) (fun x => bd (pWh b n x.2 0 P.2.2.2.sz) (fun y => .inr ((P.1, true, P.2.2.1, mkD P.2.2.2.n P.2.2.2.sz P.2.2.2.jo x.1 y.1 P.2.2.2.dn P.2.2.2.up P.2.2.2.X P.2.2.2.Y), y.2)))
noncomputable def pPace (b : Nat → Int) (n s : Nat) (P : Pst) : PF ⊕ (Pst × Nat) :=
  bd (pWh b n s 1 9) (fun x => bd (pWh b n x.2 1 9) (fun y => .inr ((P.1, P.2.1, true, mkD P.2.2.2.n P.2.2.2.sz P.2.2.2.jo P.2.2.2.hx P.2.2.2.hy x.1 y.1 P.2.2.2.X P.2.2.2.Y), y.2)))
noncomputable def pLine (b : Nat → Int) (n s : Nat) (P : Pst) : PF ⊕ (Pst × Nat) :=
  if isW b n s 0 = true then (if P.1 = true then .inl (4, tS b n s) else pSheet b n (tN b n s) P)
  else if isW b n s 1 = true ∨ isW b n s 2 = true ∨ isW b n s 3 = true then
    (if P.1 = false then .inl (6, tS b n s)
    else if isW b n s 1 = true then (if P.2.2.2.n < 24 then pStroke b n (tN b n s) P else .inl (5, tS b n s))
    else if isW b n s 2 = true then (if P.2.1 = true then .inl (4, tS b n s) else pHome b n (tN b n s) P)
    else (if P.2.2.1 = true then .inl (4, tS b n s) else pPace b n (tN b n s) P))
  else .inl (1, tS b n s)
noncomputable def pAll (b : Nat → Int) (n : Nat) : Nat → Nat → Pst → PF ⊕ Dw
  | 0, _, _ => .inl (1, 0)
  | r + 1, s, P => bd (pLine b n s P) (fun q => if tK b n q.2 = 0 then .inr q.1.2.2.2 else if tK b n q.2 = 3 then pAll b n r (tN b n q.2) q.1 else .inl (1, tS b n q.2))
def D0 : Dw := mkD 0 0 0 0 0 1 1 (fun _ => 0) (fun _ => 0)
noncomputable def prs (b : Nat → Int) (n : Nat) : PF ⊕ Dw := pAll b n (n + 1) 0 (false, false, false, D0)
theorem bd_inr {α β : Type} {r : PF ⊕ α} {k : α → PF ⊕ β} {y : β} (h : bd r k = .inr y) : ∃ a, r = .inr a ∧ k a = .inr y := by
  cases r with
  | inl e => cases h
  | inr a => exact ⟨a, rfl, h⟩
theorem pWh_ok {b : Nat → Int} {n s : Nat} {lo hi : Int} {v : Int × Nat} (h : pWh b n s lo hi = .inr v) (hs : s ≤ n) : lo ≤ v.1 ∧ v.1 ≤ hi ∧ s < v.2 ∧ v.2 ≤ n := by
  unfold pWh at h
  by_cases c : tK b n s = 2
  · rw [if_pos c] at h
    by_cases c2 : lo ≤ tV b n s ∧ tV b n s ≤ hi
    · rw [if_pos c2] at h
      cases h
      exact ⟨c2.1, c2.2, tN_lt hs (by omega), (tN_le hs).2⟩
    · rw [if_neg c2] at h; cases h
  · rw [if_neg c] at h; cases h
theorem isW_k {b : Nat → Int} {n s w : Nat} (h : isW b n s w = true) : tK b n s = 1 := by
  unfold isW at h
  simp at h
  exact h.1.1
theorem pWd_ok {b : Nat → Int} {n s w v : Nat} (h : pWd b n s w = .inr v) (hs : s ≤ n) : s < v ∧ v ≤ n := by
  unfold pWd at h
  by_cases c : isW b n s w = true
  · rw [if_pos c] at h
    cases h
    have := isW_k c
    exact ⟨tN_lt hs (by omega), (tN_le hs).2⟩
  · rw [if_neg c] at h; cases h
def okP (P : Pst) : Prop := (P.1 = true → okDw P.2.2.2) ∧ (P.1 = false → P.2.2.2 = D0)
theorem pLine_ok {b : Nat → Int} {n s : Nat} {P : Pst} {q : Pst × Nat} (h : pLine b n s P = .inr q) (hs : s ≤ n) (hP : okP P) : s < q.2 ∧ q.2 ≤ n ∧ q.1.1 = true ∧ okP q.1 := by
  have hN : ∀ w, isW b n s w = true → s < tN b n s ∧ tN b n s ≤ n := fun w hw => by
    have := isW_k hw
    exact ⟨tN_lt hs (by omega), (tN_le hs).2⟩
  unfold pLine at h
  by_cases c0 : isW b n s 0 = true
  · rw [if_pos c0] at h
    obtain ⟨n1, n2⟩ := hN 0 c0
    cases c1 : P.1 with
    | true => rw [c1] at h; cases h
    | false =>
      rw [c1, if_neg (by simp)] at h
      unfold pSheet at h
      obtain ⟨s1, h1, h⟩ := bd_inr h
      obtain ⟨z, h2, h⟩ := bd_inr h
      obtain ⟨s3, h3, h⟩ := bd_inr h
      obtain ⟨j, h4, h⟩ := bd_inr h
      have k1 := pWd_ok h1 n2
      have k2 := pWh_ok h2 k1.2
      have k3 := pWd_ok h3 k2.2.2.2
      have k4 := pWh_ok h4 k3.2
      cases h
      refine ⟨by omega, by omega, rfl, fun _ => ?_, fun q => by cases q⟩
      rw [hP.2 c1]
      refine ⟨by show 0 ≤ 24; omega, ⟨k2.1, k2.2.1⟩, ⟨k4.1, k4.2.1⟩, ⟨by show (0 : Int) ≤ 0; omega, ?_⟩, ⟨by show (0 : Int) ≤ 0; omega, ?_⟩, ⟨by show (1 : Int) ≤ 1; omega, by show (1 : Int) ≤ 9; omega⟩, ⟨by show (1 : Int) ≤ 1; omega, by show (1 : Int) ≤ 9; omega⟩, fun e he => ?_⟩
      · show (0 : Int) ≤ z.1; omega
      · show (0 : Int) ≤ z.1; omega
      · replace he : e < 2 * 0 := he; omega
  · rw [if_neg c0] at h
    by_cases c1 : isW b n s 1 = true ∨ isW b n s 2 = true ∨ isW b n s 3 = true
    · rw [if_pos c1] at h
      have hnn : s < tN b n s ∧ tN b n s ≤ n := by rcases c1 with c | c | c <;> exact hN _ c
      cases c2 : P.1 with
      | false => rw [c2] at h; cases h
      | true =>
        rw [c2, if_neg (by simp)] at h
        have hD := hP.1 c2
        by_cases c3 : isW b n s 1 = true
        · rw [if_pos c3] at h
          by_cases c4 : P.2.2.2.n < 24
          · rw [if_pos c4] at h
            unfold pStroke at h
            obtain ⟨x, h1, h⟩ := bd_inr h
            obtain ⟨y, h2, h⟩ := bd_inr h
            obtain ⟨u, h3, h⟩ := bd_inr h
            obtain ⟨v, h4, h⟩ := bd_inr h
            have k1 := pWh_ok h1 hnn.2
            have k2 := pWh_ok h2 k1.2.2.2
            have k3 := pWh_ok h3 k2.2.2.2
            have k4 := pWh_ok h4 k3.2.2.2
            by_cases c5 : x.1 = u.1 ∧ y.1 = v.1
            · rw [if_pos c5] at h; cases h
            · rw [if_neg c5] at h
              cases h
              exact ⟨by omega, by omega, c2, fun _ => hD.add c4 ⟨k1.1, k1.2.1⟩ ⟨k2.1, k2.2.1⟩ ⟨k3.1, k3.2.1⟩ ⟨k4.1, k4.2.1⟩, fun q => by rw [c2] at q; cases q⟩
          · rw [if_neg c4] at h; cases h
        · rw [if_neg c3] at h
          by_cases c4 : isW b n s 2 = true
          · rw [if_pos c4] at h
            by_cases c5 : P.2.1 = true
            · rw [if_pos c5] at h; cases h
            · rw [if_neg c5] at h
              unfold pHome at h
              obtain ⟨x, h1, h⟩ := bd_inr h
              obtain ⟨y, h2, h⟩ := bd_inr h
              have k1 := pWh_ok h1 hnn.2
              have k2 := pWh_ok h2 k1.2.2.2
              cases h
              obtain ⟨d1, d2, d3, d4, d5, d6, d7, d8⟩ := hD
              exact ⟨by omega, by omega, c2, fun _ => ⟨d1, d2, d3, ⟨k1.1, k1.2.1⟩, ⟨k2.1, k2.2.1⟩, d6, d7, d8⟩, fun q => by rw [c2] at q; cases q⟩
          · rw [if_neg c4] at h
            by_cases c5 : P.2.2.1 = true
            · rw [if_pos c5] at h; cases h
            · rw [if_neg c5] at h
              unfold pPace at h
              obtain ⟨x, h1, h⟩ := bd_inr h
              obtain ⟨y, h2, h⟩ := bd_inr h
              have k1 := pWh_ok h1 hnn.2
              have k2 := pWh_ok h2 k1.2.2.2
              cases h
              obtain ⟨d1, d2, d3, d4, d5, d6, d7, d8⟩ := hD
              exact ⟨by omega, by omega, c2, fun _ => ⟨d1, d2, d3, d4, d5, ⟨k1.1, k1.2.1⟩, ⟨k2.1, k2.2.1⟩, d8⟩, fun q => by rw [c2] at q; cases q⟩
    · rw [if_neg c1] at h; cases h
theorem pAll_ok {b : Nat → Int} {n : Nat} {D : Dw} : ∀ {r s : Nat} {P : Pst}, pAll b n r s P = .inr D → s ≤ n → okP P → okDw D
  | 0, s, P, h, _, _ => by cases h
  | r + 1, s, P, h, hs, hP => by
    unfold pAll at h
    obtain ⟨q, h1, h⟩ := bd_inr h
    obtain ⟨k1, k2, k3, k4⟩ := pLine_ok h1 hs hP
    by_cases c : tK b n q.2 = 0
    · rw [if_pos c] at h
      cases h
      exact k4.1 k3
    · rw [if_neg c] at h
      by_cases c2 : tK b n q.2 = 3
      · rw [if_pos c2] at h
        exact pAll_ok h (tN_le k2).2 k4
      · rw [if_neg c2] at h; cases h
theorem prs_ok {b : Nat → Int} {n : Nat} {D : Dw} (h : prs b n = .inr D) : okDw D := pAll_ok h (Nat.zero_le _) ⟨fun q => (by cases q), fun _ => rfl⟩
