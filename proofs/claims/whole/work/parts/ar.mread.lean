/-! Model: reading -/
theorem kc_0 {k : Int} : kc k = 0 ↔ k = 0 := by
  unfold kc
  repeat' split
  all_goals omega
theorem kc_1 {k : Int} : kc k = 2 ↔ k = 1 := by
  unfold kc
  repeat' split
  all_goals omega
theorem kc_2 {k : Int} : kc k = 3 ↔ k = 2 := by
  unfold kc
  repeat' split
  all_goals omega
theorem kc_3 {k : Int} : kc k = 59 ↔ k = 3 := by
  unfold kc
  repeat' split
  all_goals omega
theorem bd_as {α β γ : Type} (r : PF ⊕ α) (k : α → PF ⊕ β) (l : β → PF ⊕ γ) : bd (bd r k) l = bd r (fun a => bd (k a) l) := by cases r <;> rfl
theorem isW6 {b : Nat → Int} {n s w : Nat} (hw : w < 6) : isW b n s (6 + w) = isW b n s w := by
  have : strCh (6 + w) = strCh w := by
    have : w = 0 ∨ w = 1 ∨ w = 2 ∨ w = 3 ∨ w = 4 ∨ w = 5 := by omega
    rcases this with rfl | rfl | rfl | rfl | rfl | rfl <;> rfl
  unfold isW; rw [this]
/-- reading has changed the token, the fault, what has come, and the row alone -/
def pF (σ σ' : StT) : Prop := fr [125, 128] σ σ' ∧ ∀ j, (j < 13 ∨ 21 < j) → σ' 125 j = σ 125 j
theorem pF.rf {σ : StT} : pF σ σ := ⟨fr.rf, fun _ _ => rfl⟩
theorem pF.trans {σ σ1 σ2 : StT} (h : pF σ σ1) (k : pF σ1 σ2) : pF σ σ2 := ⟨h.1.trans k.1, fun j hj => (k.2 j hj).trans (h.2 j hj)⟩
theorem rkm.F {σ σ' : StT} (h : rkm σ σ') : pF σ σ' := ⟨h.1.mono (by simp), fun j hj => h.2 j (by omega) (by omega) (by omega) (by omega)⟩
theorem pF.pa {σ σ' : StT} {i : Nat} {v : Int} (h : pF σ σ') (hi : 13 ≤ i ∧ i ≤ 21) : pF σ (up2 σ' 125 i v) := ⟨h.1.put (by simp), fun j hj => by rw [up2_i (by omega)]; exact h.2 j hj⟩
theorem pF.pb {σ σ' : StT} {i : Nat} {v : Int} (h : pF σ σ') : pF σ (up2 σ' 128 i v) := ⟨h.1.put (by simp), fun j hj => by rw [up2_a (by decide)]; exact h.2 j hj⟩
theorem rCm.F {σ σ' : StT} {b : Nat → Int} {n : Nat} (h : rCm σ b n) (hk : pF σ σ') : rCm σ' b n := ⟨h.1, by rw [hk.2 12 (by omega)]; exact h.2.1, fun x hx => by rw [hk.1 126 (by decide)]; exact h.2.2 x hx⟩
def flm (σ : StT) (e : PF) : Prop := σ 125 17 = e.1 ∧ σ 125 18 = e.2
section MREAD
variable {S : ShT} {σ : StT} {Q : Int → StT → Prop} {b : Nat → Int} {n s : Nat}
theorem m_isWord {w : Nat} (hS : SHP S) (hw : w < 12) (hC : rCm σ b n) (hs : s ≤ n) (hK : atKm σ b n s) (hQ : Q (if isW b n s w = true then 1 else 0) σ) : WPs mX11_isWord [vR 125, vR (BIG + 1 + w)] S σ Q := by
  obtain ⟨k1, k2, k3, -⟩ := hK
  have hl := strCh_len w
  have hSl := tS_le (b := b) hs
  have hNl := tN_le (b := b) hs
  have hn := hC.1
  refine e_X11_isWord hS hw ?_
  rw [k1, k2, kc_1]
  have no : isW b n s w = false → Q 0 σ := fun e => by rw [e] at hQ; exact hQ
  refine ⟨fun q => no ?_, fun q => ?_⟩
  · unfold isW; rw [decide_eq_false q]; rfl
  · have k3 := k3 (by omega)
    rw [k3]
    refine ⟨inR_s (by omega) (by omega), sp_slength hw ⟨fun q2 => ?_, fun q2 => no ?_⟩⟩
    · refine lup (I := fun i σ' => 0 ≤ i ∧ i ≤ ((strCh w).length : Int) ∧ σ' = σ ∧ ∀ x : Nat, (x : Int) < i → b (tS b n s + x) = (strCh w).getD x 0) (W := fun i σ' => AWs mX11_isWord 28 [(0, vR 125), (1, vR (BIG + 1 + w)), (2, vI i)] [] S σ' Q) ((strCh w).length : Int) ?_ ?_ 0 σ ⟨by omega, by omega, rfl, fun x hx => by omega⟩
      · rintro i σ1 ⟨i0, i1, rfl, i2⟩ hge
        refine t_X11_isWord_28 hS hw (sp_slength hw ⟨fun _ => ?_, fun q => absurd hge q⟩)
        have : isW b n s w = true := by
          unfold isW
          rw [decide_eq_true q, decide_eq_true (show tN b n s - tS b n s = (strCh w).length by omega)]
          simp only [Bool.true_and]
          refine List.all_eq_true.mpr (fun x hx => ?_)
          have hx := List.mem_range.mp hx
          exact decide_eq_true (i2 x (by omega))
        rw [this] at hQ; exact hQ
      · rintro i σ1 ⟨i0, i1, rfl, i2⟩ hlt kk
        obtain ⟨i, rfl⟩ := nat_of i0
        have eb : σ1 126 (tS b n s + i) = b (tS b n s + i) := (hC.2.2 _ (by omega)).1
        refine t_X11_isWord_28 hS hw (sp_slength hw ⟨fun q => absurd q (by omega), fun _ => ?_⟩)
        rw [k2, show ((tS b n s : Int) + (i : Int)).toNat = tS b n s + i by omega, eb]
        refine ⟨inR_s (by omega) (by omega), ⟨by omega, by omega⟩, sp_charAt hw (by omega) hlt ⟨fun q3 => ⟨inR_s (by omega) (by omega), kk σ1 ⟨by omega, by omega, rfl, fun x hx => ?_⟩⟩, fun q3 => no ?_⟩⟩
        · rw [tn_cast] at q3
          by_cases e : x = i
          · rw [e]; exact q3
          · exact i2 x (by omega)
        · rw [tn_cast] at q3
          cases e : isW b n s w with
          | false => rfl
          | true =>
            unfold isW at e
            simp only [Bool.and_eq_true] at e
            have := List.all_eq_true.mp e.2 i (List.mem_range.mpr (by omega))
            exact absurd (of_decide_eq_true this) q3
    · unfold isW
      rw [decide_eq_false (show ¬ tN b n s - tS b n s = (strCh w).length by omega)]; simp
theorem m_errs {k : Int} (hS : SHP S) (hK : atKm σ b n s) (hQ : ∀ σ' : StT, flm σ' (k, tS b n s) → pF σ σ' → Q 0 σ') : WPs mX11_errs [vR 125, vI k] S σ Q := by
  refine e_X11_errs hS ?_
  rw [hK.2.1]
  exact hQ _ ⟨by rw [up2_i (by decide), up2_s], by rw [up2_s]⟩ ((pF.rf.pa (by omega)).pa (by omega))
/-- a number was laid in the row -/
def ld1 (σ σ' : StT) (to : Nat) (v : Int) : Prop := (∀ j, σ' 128 j = if j = to then v else σ 128 j) ∧ fr [125, 128] σ σ' ∧ ∀ j, j ≠ 13 → j ≠ 14 → j ≠ 15 → j ≠ 16 → σ' 125 j = σ 125 j
theorem ld1.F {σ' : StT} {to : Nat} {v : Int} (h : ld1 σ σ' to v) : pF σ σ' := ⟨h.2.1, fun j hj => h.2.2 j (by omega) (by omega) (by omega) (by omega)⟩
theorem m_lays {to : Nat} {lo hi : Int} (hS : SHP S) (hto : to < 152) (hC : rCm σ b n) (hs : s ≤ n) (hK : atKm σ b n s)
    (h0 : ∀ (e : PF) (σ' : StT), pWh b n s lo hi = .inl e → flm σ' e → pF σ σ' → Q 0 σ')
    (h1 : ∀ (v : Int × Nat) (σ' : StT), pWh b n s lo hi = .inr v → atKm σ' b n v.2 → ld1 σ σ' to v.1 → Q 1 σ') : WPs mX11_lays [vR 125, vI (to : Int), vI lo, vI hi] S σ Q := by
  refine e_X11_lays hS ?_
  rw [hK.1, kc_2]
  refine ⟨fun q => ?_, fun q => m_errs hS hK (fun σ' a F => ⟨Or.inl rfl, h0 (1, tS b n s) σ' ?_ a F⟩)⟩
  · rw [hK.2.2.2 q]
    refine m_in hS (fun q2 => ⟨fun c => absurd rfl c, fun _ => m_errs hS hK (fun σ' a F => ⟨Or.inl rfl, h0 (2, tS b n s) σ' ?_ a F⟩)⟩) (fun q2 => ⟨fun _ => ⟨⟨by omega, by omega⟩, ?_⟩, fun c => absurd c (by decide)⟩)
    · unfold pWh; rw [if_pos q, if_neg q2]
    · rw [hK.2.2.2 q, tn_cast]
      have F1 : pF σ (up2 σ 128 to (tV b n s)) := pF.rf.pb
      refine m_goesOn (b := b) (n := n) (s := tN b n s) hS (hC.F F1) (tN_le hs).2 (by rw [up2_a (by decide)]; exact hK.2.2.1 (by omega)) ?_
      intro σ' a R
      refine h1 (tV b n s, tN b n s) σ' ?_ a ⟨fun j => ?_, F1.1.trans (R.1.mono (by simp)), fun j j1 j2 j3 j4 => by rw [R.2 j j1 j2 j3 j4, up2_a (by decide)]⟩
      · unfold pWh; rw [if_pos q, if_pos q2]
      · rw [R.1 128 (by decide)]
        by_cases e : j = to
        · rw [if_pos e, e, up2_s]
        · rw [if_neg e, up2_i e]
  · unfold pWh; rw [if_neg q]
theorem m_after {w to : Nat} {lo hi : Int} (hS : SHP S) (hw : w < 12) (hto : to < 152) (hC : rCm σ b n) (hs : s ≤ n) (hK : atKm σ b n s)
    (h0 : ∀ (e : PF) (σ' : StT), bd (pWd b n s w) (fun s1 => pWh b n s1 lo hi) = .inl e → flm σ' e → pF σ σ' → Q 0 σ')
    (h1 : ∀ (v : Int × Nat) (σ' : StT), bd (pWd b n s w) (fun s1 => pWh b n s1 lo hi) = .inr v → v.2 ≤ n → atKm σ' b n v.2 → ld1 σ σ' to v.1 → Q 1 σ') : WPs mX11_after [vR 125, vR (BIG + 1 + w), vI (to : Int), vI lo, vI hi] S σ Q := by
  refine e_X11_after hS hw (m_isWord hS hw hC hs hK ?_)
  by_cases c : isW b n s w = true
  · rw [if_pos c]
    have hw1 : pWd b n s w = .inr (tN b n s) := by unfold pWd; rw [if_pos c]
    have hk := isW_k c
    refine ⟨fun _ => ?_, fun c => absurd c (by decide)⟩
    refine m_goesOn (b := b) (n := n) (s := tN b n s) hS hC (tN_le hs).2 (hK.2.2.1 (by omega)) ?_
    intro σ1 a R
    refine m_lays hS hto (hC.k R) (tN_le hs).2 a (fun e σ' q1 q2 q3 => ⟨Or.inl rfl, h0 e σ' ?_ q2 (R.F.trans q3)⟩) (fun v σ' q1 q2 q3 => ⟨Or.inr rfl, h1 v σ' ?_ (pWh_ok q1 (tN_le hs).2).2.2.2 q2 ⟨fun j => by rw [q3.1 j, R.1 128 (by decide)], (R.1.mono (by simp)).trans q3.2.1, fun j j1 j2 j3 j4 => by rw [q3.2.2 j j1 j2 j3 j4, R.2 j j1 j2 j3 j4]⟩⟩)
    · rw [hw1]; exact q1
    · rw [hw1]; exact q1
  · rw [if_neg c]
    have hw1 : pWd b n s w = .inl (1, tS b n s) := by unfold pWd; rw [if_neg c]
    exact ⟨fun c => absurd rfl c, fun _ => m_errs hS hK (fun σ' a F => ⟨Or.inl rfl, h0 (1, tS b n s) σ' (by rw [hw1]; rfl) a F⟩)⟩
end MREAD
