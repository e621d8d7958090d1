/-! History -/
abbrev Hs : Type := List (Dw × Nat × (Nat → Nat))
def Dw0 : Dw := mkD 0 0 0 0 0 0 0 (fun _ => 0) (fun _ => 0)
def hg (L : Hs) (i : Nat) : Dw × Nat × (Nat → Nat) := L.getD i (Dw0, 0, fun _ => 0)
def atHc (σ : StT) (L : Hs) (w : Nat) : Prop := ∀ i, i < L.length → cD σ (56 + 5 * ((w + 10 - i) % 10)) (hg L i).1 ∧ pl σ (59 + 5 * ((w + 10 - i) % 10)) (hg L i).2.1 (hg L i).2.2
def atH (σ : StT) (L : Hs) : Prop := σ 53 3 = L.length ∧ L.length ≤ 10 ∧ ∃ w : Nat, w < 10 ∧ σ 53 2 = w ∧ atHc σ L w
def okHs (L : Hs) : Prop := ∀ i, i < L.length → okDw (hg L i).1 ∧ (hg L i).2.1 ≤ 24
def hk1 (L : Hs) (D : Dw) (N : Nat) (f : Nat → Nat) : Hs := ((D, N, f) :: L).take 10
theorem hk1_len {L : Hs} {D : Dw} {N : Nat} {f : Nat → Nat} : (hk1 L D N f).length = min (L.length + 1) 10 := by
  unfold hk1; rw [List.length_take, List.length_cons]; omega
theorem hk1_0 {L : Hs} {D : Dw} {N : Nat} {f : Nat → Nat} : hg (hk1 L D N f) 0 = (D, N, f) := rfl
theorem hk1_s {L : Hs} {D : Dw} {N i : Nat} {f : Nat → Nat} (h : i + 1 < 10) : hg (hk1 L D N f) (i + 1) = hg L i := by
  unfold hg hk1; rw [gd_take h]; rfl
theorem isD_h {c : Nat} (h : c < 10) : isD (56 + 5 * c) := by
  have := is_54 (i := (c : Int)) (by omega) (by omega)
  rw [tn_cast] at this; exact this
theorem isP_h {c : Nat} (h : c < 10) : isP (59 + 5 * c) := by
  have := is_55 (i := (c : Int)) (by omega) (by omega)
  rw [tn_cast] at this; exact this
theorem atH.ext {σ σ' : StT} {L : Hs} {lo hi : Nat} (h : atH σ L) (hf : frR lo hi σ σ') (hl : hi ≤ 53 ∨ 106 ≤ lo) : atH σ' L := by
  obtain ⟨h1, h2, w, h3, h4, h5⟩ := h
  refine ⟨by rw [hf 53 (by omega)]; exact h1, h2, w, h3, by rw [hf 53 (by omega)]; exact h4, fun i hi' => ?_⟩
  obtain ⟨a, b⟩ := h5 i hi'
  have hc : (w + 10 - i) % 10 < 10 := Nat.mod_lt _ (by omega)
  exact ⟨a.ext (fun j => hf _ (by omega) j) (fun j => hf _ (by omega) j) (fun j => hf _ (by omega) j), b.ext (hf _ (by omega) 4) (fun j => hf _ (by omega) j)⟩
section HIST
variable {S : ShT} {σ : StT} {Q : Int → StT → Prop} {D : Dw} {N : Nat} {f : Nat → Nat} {L : Hs}
theorem sp_keep (hS : SHP S) (hH : atH σ L) (hD : cD σ 4 D) (hn : D.n ≤ 24) (hP : pl σ 51 N f) (hN : N ≤ 24) (hQ : ∀ σ' : StT, atH σ' (hk1 L D N f) → frR 53 106 σ σ' → Q 0 σ') : WPs mX2_keep [vR 53, vR 4, vR 51] S σ Q := by
  obtain ⟨h1, h2, w, h3, h4, h5⟩ := hH
  have hw : (w + 1) % 10 < 10 := Nat.mod_lt _ (by omega)
  refine e_X2_keep hS isD_a (Or.inl rfl) ?_
  rw [h4, show ((w : Int) + 1) % 10 = (((w + 1) % 10 : Nat) : Int) by omega, tn_cast]
  refine ⟨inR_s (by omega) (by omega), by omega, ⟨by omega, by omega⟩, ?_⟩
  have F0 : frR 53 106 σ (up2 σ 53 2 (((w + 1) % 10 : Nat) : Int)) := frR.rf.put (by omega) (by omega)
  refine sp_dcopy (D := D) hS (isD_h hw) isD_a (by omega) (hD.ext (fun j => F0 _ (by omega) j) (fun j => F0 _ (by omega) j) (fun j => F0 _ (by omega) j)) hn ?_
  intro σ1 c1 f1
  have e532 : σ1 53 2 = (((w + 1) % 10 : Nat) : Int) := by rw [f1 53 (by simp; omega), up2_s]
  have F1 : frR 53 106 σ σ1 := F0.trans (f1.R (by simp; omega))
  rw [e532, tn_cast]
  refine ⟨⟨by omega, by omega⟩, ?_⟩
  refine sp_pcopy (q := 51) (N := N) (f := f) hS (isP_h hw) (Or.inl rfl) (by omega) (hP.ext (F1 _ (by omega) 4) (fun j => F1 _ (by omega) j)) hN ?_
  intro σ2 c2 f2
  have F2 : frR 53 106 σ σ2 := F1.trans (f2.R (by simp; omega))
  have e533 : σ2 53 3 = L.length := by rw [f2 53 (by simp; omega), f1 53 (by simp; omega), up2_i (by decide)]; exact h1
  have e532' : σ2 53 2 = (((w + 1) % 10 : Nat) : Int) := by rw [f2 53 (by simp; omega)]; exact e532
  rw [e533]
  refine ⟨inR_s (by omega) (by omega), hQ _ ⟨?_, ?_, (w + 1) % 10, hw, ?_, fun i hi => ?_⟩ (F2.put (by omega) (by omega))⟩
  · rw [up2_s, hk1_len]; omega
  · rw [hk1_len]; omega
  · rw [up2_i (by decide)]; exact e532'
  · rw [hk1_len] at hi
    cases i with
    | zero =>
      rw [hk1_0, show ((w + 1) % 10 + 10 - 0) % 10 = (w + 1) % 10 by omega]
      refine ⟨c1.ext (fun j => ?_) (fun j => ?_) (fun j => ?_), c2.ext ?_ (fun j => ?_)⟩
      · rw [up2_a (by omega), f2 _ (by simp; omega)]
      · rw [up2_a (by omega), f2 _ (by simp; omega)]
      · rw [up2_a (by omega), f2 _ (by simp; omega)]
      · rw [up2_a (by omega)]
      · rw [up2_a (by omega)]
    | succ i =>
      rw [hk1_s (by omega), show ((w + 1) % 10 + 10 - (i + 1)) % 10 = (w + 10 - i) % 10 by omega]
      obtain ⟨a, b⟩ := h5 i (by omega)
      have hc : (w + 10 - i) % 10 < 10 := Nat.mod_lt _ (by omega)
      have hne : (w + 10 - i) % 10 ≠ (w + 1) % 10 := by omega
      have go : ∀ b, 56 + 5 * ((w + 10 - i) % 10) ≤ b → b ≤ 60 + 5 * ((w + 10 - i) % 10) → ∀ j, (up2 σ2 53 3 (min ((L.length : Int) + 1) 10)) b j = σ b j := fun b b1 b2 j => by
        rw [up2_a (by omega), f2 _ (by simp; omega), f1 _ (by simp; omega), up2_a (by omega)]
      exact ⟨a.ext (fun j => go _ (by omega) (by omega) j) (fun j => go _ (by omega) (by omega) j) (fun j => go _ (by omega) (by omega) j), b.ext (go _ (by omega) (by omega) 4) (fun j => go _ (by omega) (by omega) j)⟩
theorem sp_takeBack (hS : SHP S) (hH : atH σ ((D, N, f) :: L)) (hn : D.n ≤ 24) (hN : N ≤ 24) (hQ : ∀ σ' : StT, atH σ' L → cD σ' 4 D → pl σ' 122 N f → (∀ b, b ≠ 53 → b ≠ 4 → b ≠ 5 → b ≠ 6 → b ≠ 122 → b ≠ 123 → ∀ j, σ' b j = σ b j) → Q 0 σ') : WPs mX2_takeBack [vR 53, vR 4, vR 122] S σ Q := by
  obtain ⟨h1, h2, w, h3, h4, h5⟩ := hH
  have hl : ((D, N, f) :: L).length = L.length + 1 := rfl
  rw [hl] at h1 h2
  obtain ⟨a0, b0⟩ := h5 0 (by rw [hl]; omega)
  have ew : (w + 10 - 0) % 10 = w := by omega
  rw [ew] at a0 b0
  have a0' : cD σ (56 + 5 * w) D := a0
  have b0' : pl σ (59 + 5 * w) N f := b0
  refine e_X2_takeBack hS isD_a (by unfold isP; omega) ⟨fun _ => ?_, fun q => absurd q (by rw [h1]; omega)⟩
  rw [h4, tn_cast]
  refine ⟨⟨by omega, by omega⟩, ?_⟩
  refine sp_dcopy hS isD_a (isD_h h3) (by omega) a0' hn ?_
  intro σ1 c1 f1
  rw [f1 53 (by simp), h4, tn_cast]
  refine ⟨⟨by omega, by omega⟩, ?_⟩
  refine sp_pcopy (q := 59 + 5 * w) (N := N) (f := f) hS (by unfold isP; omega) (isP_h h3) (by omega) (b0'.ext (f1 _ (by simp; omega) 4) (fun j => f1 _ (by simp; omega) j)) hN ?_
  intro σ2 c2 f2
  have e2 : σ2 53 2 = w := by rw [f2 53 (by simp), f1 53 (by simp)]; exact h4
  have e3 : σ2 53 3 = ((L.length + 1 : Nat) : Int) := by rw [f2 53 (by simp), f1 53 (by simp)]; exact h1
  rw [e2, e3]
  refine ⟨inR_s (by omega) (by omega), inR_s (by omega) (by omega), by omega, inR_s (by omega) (by omega), ?_⟩
  have go : ∀ b, b ≠ 53 → b ≠ 4 → b ≠ 5 → b ≠ 6 → b ≠ 122 → b ≠ 123 → ∀ j, (up2 (up2 σ2 53 2 (((w : Int) + 10 - 1) % 10)) 53 3 (((L.length + 1 : Nat) : Int) - 1)) b j = σ b j := fun b b1 b2 b3 b4 b5 b6 j => by
    rw [up2_a b1, up2_a b1, f2 _ (by simp; omega), f1 _ (by simp; omega)]
  refine hQ _ ⟨?_, by omega, (w + 9) % 10, Nat.mod_lt _ (by omega), ?_, fun i hi => ?_⟩ ?_ ?_ go
  · rw [up2_s]; omega
  · rw [up2_i (by decide), up2_s]; omega
  · obtain ⟨a, b⟩ := h5 (i + 1) (by rw [hl]; omega)
    rw [show (w + 10 - (i + 1)) % 10 = ((w + 9) % 10 + 10 - i) % 10 by omega] at a b
    have hc : ((w + 9) % 10 + 10 - i) % 10 < 10 := Nat.mod_lt _ (by omega)
    have e : hg ((D, N, f) :: L) (i + 1) = hg L i := rfl
    rw [e] at a b
    exact ⟨a.ext (fun j => go _ (by omega) (by omega) (by omega) (by omega) (by omega) (by omega) j) (fun j => go _ (by omega) (by omega) (by omega) (by omega) (by omega) (by omega) j) (fun j => go _ (by omega) (by omega) (by omega) (by omega) (by omega) (by omega) j), b.ext (go _ (by omega) (by omega) (by omega) (by omega) (by omega) (by omega) 4) (fun j => go _ (by omega) (by omega) (by omega) (by omega) (by omega) (by omega) j)⟩
  · exact c1.ext (fun j => by rw [up2_a (by decide), up2_a (by decide), f2 _ (by simp)]) (fun j => by rw [up2_a (by decide), up2_a (by decide), f2 _ (by simp)]) (fun j => by rw [up2_a (by decide), up2_a (by decide), f2 _ (by simp)])
  · exact c2.ext (by rw [up2_a (by decide), up2_a (by decide)]) (fun j => by rw [up2_a (by decide), up2_a (by decide)])
end HIST
