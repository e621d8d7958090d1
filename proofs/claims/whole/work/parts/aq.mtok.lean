/-! Model: tokens -/
def kc (k : Int) : Int := if k = 0 then 0 else if k = 1 then 2 else if k = 2 then 3 else if k = 3 then 59 else 1
def rCm (σ : StT) (b : Nat → Int) (n : Nat) : Prop := n ≤ 700 ∧ σ 125 12 = n ∧ ∀ x, x < n → σ 126 x = b x ∧ 0 ≤ b x
def atKm (σ : StT) (b : Nat → Int) (n s : Nat) : Prop := σ 125 15 = kc (tK b n s) ∧ σ 125 13 = tS b n s ∧ (tK b n s ≠ 4 → σ 125 14 = tN b n s) ∧ (tK b n s = 2 → σ 125 16 = tV b n s)
/-- the token alone has changed -/
def rkm (σ σ' : StT) : Prop := fr [125] σ σ' ∧ ∀ j, j ≠ 13 → j ≠ 14 → j ≠ 15 → j ≠ 16 → σ' 125 j = σ 125 j
theorem rkm.rf {σ : StT} : rkm σ σ := ⟨fr.rf, fun _ _ _ _ _ => rfl⟩
theorem rkm.put {σ σ' : StT} {i : Nat} {v : Int} (h : rkm σ σ') (hi : i = 13 ∨ i = 14 ∨ i = 15 ∨ i = 16) : rkm σ (up2 σ' 125 i v) := ⟨h.1.put (by simp), fun j a b c d => by rw [up2_i (by omega)]; exact h.2 j a b c d⟩
theorem kd_1 {c : Int} : kd c = 1 ↔ 97 ≤ c ∧ c ≤ 122 := by
  unfold kd
  by_cases a : 97 ≤ c ∧ c ≤ 122
  · rw [if_pos a]; exact ⟨fun _ => a, fun _ => rfl⟩
  · rw [if_neg a]
    refine ⟨fun q => ?_, fun q => absurd q a⟩
    by_cases a2 : 48 ≤ c ∧ c ≤ 57
    · rw [if_pos a2] at q; omega
    · rw [if_neg a2] at q
      by_cases a3 : c = 59
      · rw [if_pos a3] at q; omega
      · rw [if_neg a3] at q; omega
theorem kd_2 {c : Int} : kd c = 2 ↔ 48 ≤ c ∧ c ≤ 57 := by
  unfold kd
  by_cases a : 97 ≤ c ∧ c ≤ 122
  · rw [if_pos a]; exact ⟨fun q => by omega, fun q => by omega⟩
  · rw [if_neg a]
    by_cases a2 : 48 ≤ c ∧ c ≤ 57
    · rw [if_pos a2]; exact ⟨fun _ => a2, fun _ => rfl⟩
    · rw [if_neg a2]
      refine ⟨fun q => ?_, fun q => absurd q a2⟩
      by_cases a3 : c = 59
      · rw [if_pos a3] at q; omega
      · rw [if_neg a3] at q; omega
section MTOK
variable {S : ShT} {σ : StT} {Q : Int → StT → Prop} {b : Nat → Int} {n s : Nat}
theorem rCm.k {σ' : StT} (h : rCm σ b n) (hk : rkm σ σ') : rCm σ' b n := ⟨h.1, by rw [hk.2 12 (by decide) (by decide) (by decide) (by decide)]; exact h.2.1, fun x hx => by rw [hk.1 126 (by decide)]; exact h.2.2 x hx⟩
theorem m_see {k : Nat} (hS : SHP S) (hC : rCm σ b n) (hQ : Q (if k < n then b k else -1) σ) : WPs mX11_see [vR 125, vI (k : Int)] S σ Q := by
  have hn := hC.1
  refine e_X11_see hS ?_
  rw [hC.2.1, tn_cast]
  refine ⟨fun q => ?_, fun q => ⟨⟨by omega, by omega⟩, ?_⟩⟩
  · rw [if_neg (by omega)] at hQ; exact hQ
  · rw [if_pos (by omega)] at hQ; rw [(hC.2.2 k (by omega)).1]; exact hQ
theorem m_goesOn (hS : SHP S) (hC : rCm σ b n) (hs : s ≤ n) (h14 : σ 125 14 = s) (hQ : ∀ σ' : StT, atKm σ' b n s → rkm σ σ' → Q 0 σ') : WPs mX11_goesOn [vR 125] S σ Q := by
  have hn := hC.1
  have hSle := tS_le (b := b) hs
  refine e_X11_goesOn hS ?_
  -- letters
  have let_ : ∀ (r t : Nat) (σ1 : StT), n - t = r → tK0 b n s = 1 → tS b n s ≤ t → t ≤ n → rkm σ σ1 → σ1 125 13 = tS b n s → σ1 125 14 = t → (∀ x, tS b n s ≤ x → x < t → x < n ∧ isK (tK0 b n s) (b x) = true) → AWs mX11_goesOn 65 [(0, vR 125)] [] S σ1 Q := by
    intro r t
    have fin : ∀ σ1 : StT, tK0 b n s = 1 → tS b n s ≤ t → t ≤ n → rkm σ σ1 → σ1 125 13 = tS b n s → σ1 125 14 = t → tN b n s = t → inR (σ1 125 14 - σ1 125 13) ∧ ((σ1 125 14 - σ1 125 13 ≤ 6 → Q 0 (up2 σ1 125 15 2)) ∧ (¬ (σ1 125 14 - σ1 125 13 ≤ 6) → Q 0 (up2 σ1 125 15 1))) := by
      intro σ1 hk ht1 ht2 R e13 e14 etn
      rw [e13, e14]
      refine ⟨inR_s (by omega) (by omega), fun q => ?_, fun q => ?_⟩
      · have hk2 : tK b n s = 1 := by unfold tK; rw [if_neg (by omega)]; exact hk
        exact hQ _ ⟨by rw [up2_s, hk2]; rfl, by rw [up2_i (by decide)]; exact e13, fun _ => by rw [up2_i (by decide), etn]; exact e14, fun c => by omega⟩ (R.put (by omega))
      · have hk2 : tK b n s = 4 := by unfold tK; rw [if_pos (Or.inl ⟨hk, by omega⟩)]
        exact hQ _ ⟨by rw [up2_s, hk2]; rfl, by rw [up2_i (by decide)]; exact e13, fun c => absurd hk2 c, fun c => by omega⟩ (R.put (by omega))
    induction r generalizing t with
    | zero =>
      intro σ1 hr hk ht1 ht2 R e13 e14 x1
      have etn : tN b n s = t := by unfold tN; rw [if_pos (Or.inl hk)]; exact adv_is ⟨ht1, x1, fun q => by omega⟩
      refine t_X11_goesOn_65 hS ?_
      rw [e14]
      refine m_see hS (hC.k R) ?_
      rw [if_neg (by omega)]
      refine m_in hS (fun q => ⟨fun _ => ?_, fun c => absurd rfl c⟩) (fun q => absurd q.1 (by decide))
      have := fin σ1 hk ht1 ht2 R e13 e14 etn
      rw [e14] at this; rw [e14]; exact this
    | succ r ih =>
      intro σ1 hr hk ht1 ht2 R e13 e14 x1
      have htn : t < n := by omega
      refine t_X11_goesOn_65 hS ?_
      rw [e14]
      refine m_see hS (hC.k R) ?_
      rw [if_pos htn]
      refine m_in hS (fun q => ⟨fun _ => ?_, fun c => absurd rfl c⟩) (fun q => ⟨fun c => absurd c (by decide), fun _ => ?_⟩)
      · have etn : tN b n s = t := by unfold tN; rw [if_pos (Or.inl hk)]; exact adv_is ⟨ht1, x1, fun _ => by unfold isK; rw [hk]; exact decide_eq_false (fun c => q (kd_1.mp c))⟩
        have := fin σ1 hk ht1 ht2 R e13 e14 etn
        rw [e14] at this; rw [e14]; exact this
      · rw [e14]
        refine ⟨inR_s (by omega) (by omega), ih (t + 1) (fun σ2 => ?_) _ (by omega) hk (by omega) (by omega) (R.put (by omega)) (by rw [up2_i (by decide)]; exact e13) (by rw [up2_s]; rfl) (fun x a1 a2 => ?_)⟩
        · intro hk ht1 ht2 R e13 e14 etn
          rw [e13, e14]
          refine ⟨inR_s (by omega) (by omega), fun q => ?_, fun q => ?_⟩
          · have hk2 : tK b n s = 1 := by unfold tK; rw [if_neg (by omega)]; exact hk
            exact hQ _ ⟨by rw [up2_s, hk2]; rfl, by rw [up2_i (by decide)]; exact e13, fun _ => by rw [up2_i (by decide), etn]; exact e14, fun c => by omega⟩ (R.put (by omega))
          · have hk2 : tK b n s = 4 := by unfold tK; rw [if_pos (Or.inl ⟨hk, by omega⟩)]
            exact hQ _ ⟨by rw [up2_s, hk2]; rfl, by rw [up2_i (by decide)]; exact e13, fun c => absurd hk2 c, fun c => by omega⟩ (R.put (by omega))
        · by_cases e : x = t
          · rw [e]; exact ⟨htn, by unfold isK; rw [hk]; exact decide_eq_true (kd_1.mpr q)⟩
          · exact x1 x a1 (by omega)
  -- digits
  have dig_ : ∀ (r t : Nat) (σ1 : StT), n - t = r → tK0 b n s = 2 → tS b n s ≤ t → t ≤ n → rkm σ σ1 → σ1 125 13 = tS b n s → σ1 125 14 = t → (0 ≤ σ1 125 16 ∧ σ1 125 16 < 1000) → (t - tS b n s ≤ 3 → σ1 125 16 = vl b (tS b n s) (t - tS b n s)) → (∀ x, tS b n s ≤ x → x < t → x < n ∧ isK (tK0 b n s) (b x) = true) → AWs mX11_goesOn 136 [(0, vR 125)] [] S σ1 Q := by
    intro r
    induction r with
    | zero =>
      intro t σ1 hr hk ht1 ht2 R e13 e14 e16 ev x1
      have etn : tN b n s = t := by unfold tN; rw [if_pos (Or.inr hk)]; exact adv_is ⟨ht1, x1, fun q => by omega⟩
      refine t_X11_goesOn_136 hS ?_
      rw [e14]
      refine m_see hS (hC.k R) ?_
      rw [if_neg (by omega)]
      refine m_in hS (fun q => ⟨fun _ => ?_, fun c => absurd rfl c⟩) (fun q => absurd q.1 (by decide))
      rw [e13, e14]
      refine ⟨inR_s (by omega) (by omega), fun q => ?_, fun q => ?_⟩
      · have hk2 : tK b n s = 2 := by unfold tK; rw [if_neg (by omega)]; exact hk
        exact hQ _ ⟨by rw [up2_s, hk2]; rfl, by rw [up2_i (by decide)]; exact e13, fun _ => by rw [up2_i (by decide), etn]; exact e14, fun _ => by rw [up2_i (by decide)]; unfold tV; rw [etn]; exact ev (by omega)⟩ (R.put (by omega))
      · have hk2 : tK b n s = 4 := by unfold tK; rw [if_pos (Or.inr ⟨hk, by omega⟩)]
        exact hQ _ ⟨by rw [up2_s, hk2]; rfl, by rw [up2_i (by decide)]; exact e13, fun c => absurd hk2 c, fun c => by omega⟩ (R.put (by omega))
    | succ r ih =>
      intro t σ1 hr hk ht1 ht2 R e13 e14 e16 ev x1
      have htn : t < n := by omega
      refine t_X11_goesOn_136 hS ?_
      rw [e14]
      refine m_see hS (hC.k R) ?_
      rw [if_pos htn]
      refine m_in hS (fun q => ⟨fun _ => ?_, fun c => absurd rfl c⟩) (fun q => ⟨fun c => absurd c (by decide), fun _ => ?_⟩)
      · have etn : tN b n s = t := by unfold tN; rw [if_pos (Or.inr hk)]; exact adv_is ⟨ht1, x1, fun _ => by unfold isK; rw [hk]; exact decide_eq_false (fun c => q (kd_2.mp c))⟩
        rw [e13, e14]
        refine ⟨inR_s (by omega) (by omega), fun q => ?_, fun q => ?_⟩
        · have hk2 : tK b n s = 2 := by unfold tK; rw [if_neg (by omega)]; exact hk
          exact hQ _ ⟨by rw [up2_s, hk2]; rfl, by rw [up2_i (by decide)]; exact e13, fun _ => by rw [up2_i (by decide), etn]; exact e14, fun _ => by rw [up2_i (by decide)]; unfold tV; rw [etn]; exact ev (by omega)⟩ (R.put (by omega))
        · have hk2 : tK b n s = 4 := by unfold tK; rw [if_pos (Or.inr ⟨hk, by omega⟩)]
          exact hQ _ ⟨by rw [up2_s, hk2]; rfl, by rw [up2_i (by decide)]; exact e13, fun c => absurd hk2 c, fun c => by omega⟩ (R.put (by omega))
      · have x1' : ∀ x, tS b n s ≤ x → x < t + 1 → x < n ∧ isK (tK0 b n s) (b x) = true := fun x a1 a2 => by
          by_cases e : x = t
          · rw [e]; exact ⟨htn, by unfold isK; rw [hk]; exact decide_eq_true (kd_2.mpr q)⟩
          · exact x1 x a1 (by omega)
        have dig : ∀ i, i < t + 1 - tS b n s → 48 ≤ b (tS b n s + i) ∧ b (tS b n s + i) ≤ 57 := fun i hi => by
          have := (x1' (tS b n s + i) (by omega) (by omega)).2
          unfold isK at this
          rw [hk] at this
          exact kd_2.mp (of_decide_eq_true this)
        rw [e13, e14]
        refine ⟨inR_s (by omega) (by omega), fun q2 => ⟨inR_s (by omega) (by omega), ?_⟩, fun q2 => ⟨inR_s (by omega) (by omega), m_see hS (hC.k R) ?_⟩⟩
        · refine ih (t + 1) _ (by omega) hk (by omega) (by omega) ((R.put (by omega)).put (by omega)) (by rw [up2_i (by decide), up2_i (by decide)]; exact e13) (by rw [up2_s]; rfl) (by rw [up2_i (by decide), up2_s]; exact e16) (fun c => by omega) x1'
        · rw [if_pos htn, e14]
          have v0 := ev (by omega)
          have b0 := vl_in (b := b) (s := tS b n s) (t - tS b n s) (by omega) (fun i hi => dig i (by omega))
          have b3 := vl_in (b := b) (s := tS b n s) (t - tS b n s + 1) (by omega) (fun i hi => dig i (by omega))
          have b2 : (10 : Int) ^ (t - tS b n s + 1) ≤ 1000 := by
            have : t - tS b n s = 0 ∨ t - tS b n s = 1 ∨ t - tS b n s = 2 := by omega
            rcases this with q | q | q <;> (rw [q]; decide)
          have et : tS b n s + (t - tS b n s) = t := by omega
          have ev2 : vl b (tS b n s) (t - tS b n s + 1) = 10 * vl b (tS b n s) (t - tS b n s) + b t - 48 := by
            show 10 * vl b (tS b n s) (t - tS b n s) + b (tS b n s + (t - tS b n s)) - 48 = _
            rw [et]
          refine ⟨inR_s (by omega) (by omega), inR_s (by omega) (by omega), inR_s (by omega) (by omega), ?_⟩
          refine ih (t + 1) _ (by omega) hk (by omega) (by omega) ((R.put (by omega)).put (by omega)) (by rw [up2_i (by decide), up2_i (by decide)]; exact e13) (by rw [up2_s]; rfl) (by rw [up2_i (by decide), up2_s, v0, ← ev2]; omega) (fun c => by rw [up2_i (by decide), up2_s, v0, show t + 1 - tS b n s = t - tS b n s + 1 by omega, ev2]) x1'
  -- behind the spaces
  have first : ∀ (t : Nat) (σ1 : StT), tS b n s = t → rkm σ σ1 → σ1 125 14 = t → (t < n → b t ≠ 32) → AWs mX11_goesOn 0 [(0, vR 125)] [] S σ1 Q := by
    intro t σ1 et R e14 hsp
    have htn : t ≤ n := by omega
    refine t_X11_goesOn_0 hS ?_
    rw [e14]
    refine m_see hS (hC.k R) ⟨fun _ => ?_, fun q => ?_⟩
    · rw [e14]
      have R1 : rkm σ (up2 σ1 125 13 (t : Int)) := R.put (by omega)
      have e13' : (up2 σ1 125 13 (t : Int)) 125 13 = tS b n s := by rw [up2_s, et]
      have e14' : (up2 σ1 125 13 (t : Int)) 125 14 = t := by rw [up2_i (by decide)]; exact e14
      generalize up2 σ1 125 13 (t : Int) = σ2 at R1 e13' e14'
      refine m_see hS (hC.k R1) ?_
      by_cases c : t < n
      · rw [if_pos c]
        have hb0 := (hC.2.2 t c).2
        have hk0 : tK0 b n s = kd (b t) := by unfold tK0; rw [et, if_pos c]
        refine ⟨fun _ => m_in hS (fun q => ⟨fun _ => m_in hS (fun q2 => ⟨fun _ => ?_, fun c => absurd rfl c⟩) (fun q2 => ⟨fun c => absurd c (by decide), fun _ => ?_⟩), fun c => absurd rfl c⟩) (fun q => ⟨fun c => absurd c (by decide), fun _ => ?_⟩), fun q => by omega⟩
        · rw [e14']
          have hk1 : tK0 b n s = if b t = 59 then 3 else 4 := by rw [hk0]; unfold kd; rw [if_neg q, if_neg q2]
          refine ⟨inR_s (by omega) (by omega), fun q3 => ?_, fun q3 => ?_⟩
          · rw [if_neg q3] at hk1
            have hk2 : tK b n s = 4 := by unfold tK; rw [if_neg (by omega)]; exact hk1
            exact hQ _ ⟨by rw [up2_s, hk2]; rfl, by rw [up2_i (by decide), up2_i (by decide)]; exact e13', fun c => absurd hk2 c, fun c => by omega⟩ ((R1.put (by omega)).put (by omega))
          · rw [if_pos q3] at hk1
            have hk2 : tK b n s = 3 := by unfold tK; rw [if_neg (by omega)]; exact hk1
            have etn : tN b n s = t + 1 := by unfold tN; rw [if_neg (by omega), if_pos hk1, et]
            exact hQ _ ⟨by rw [up2_s, hk2, q3]; rfl, by rw [up2_i (by decide), up2_i (by decide)]; exact e13', fun _ => by rw [up2_i (by decide), up2_s, etn]; rfl, fun c => by omega⟩ ((R1.put (by omega)).put (by omega))
        · have hk1 : tK0 b n s = 2 := hk0.trans (kd_2.mpr q2)
          refine dig_ (n - t) t _ rfl hk1 (by omega) htn (R1.put (by omega)) (by rw [up2_i (by decide)]; exact e13') (by rw [up2_i (by decide)]; exact e14') (by rw [up2_s]; omega) (fun _ => by rw [up2_s, et, Nat.sub_self]; rfl) (fun x a1 a2 => by omega)
        · have hk1 : tK0 b n s = 1 := hk0.trans (kd_1.mpr q)
          exact let_ (n - t) t σ2 rfl hk1 (by omega) htn R1 e13' e14' (fun x a1 a2 => by omega)
      · rw [if_neg c]
        have hk0 : tK0 b n s = 0 := by unfold tK0; rw [et, if_neg c]
        have hk2 : tK b n s = 0 := by unfold tK; rw [if_neg (by omega)]; exact hk0
        have etn : tN b n s = t := by unfold tN; rw [if_neg (by omega), if_neg (by omega)]; exact et
        exact ⟨fun q => absurd rfl q, fun _ => hQ _ ⟨by rw [up2_s, hk2]; rfl, by rw [up2_i (by decide)]; exact e13', fun _ => by rw [up2_i (by decide), etn]; exact e14', fun c => by omega⟩ (R1.put (by omega))⟩
    · by_cases c : t < n
      · rw [if_pos c] at q; exact absurd q (hsp c)
      · rw [if_neg c] at q; exact absurd q (by decide)
  -- spaces
  have spc : ∀ (r t : Nat) (σ1 : StT), n - t = r → s ≤ t → t ≤ n → rkm σ σ1 → σ1 125 14 = t → (∀ x, s ≤ x → x < t → x < n ∧ isSp (b x) = true) → AWs mX11_goesOn 0 [(0, vR 125)] [] S σ1 Q := by
    intro r
    induction r with
    | zero =>
      intro t σ1 hr ht1 ht2 R e14 x1
      exact first t σ1 (adv_is ⟨ht1, x1, fun q => by omega⟩) R e14 (fun q => by omega)
    | succ r ih =>
      intro t σ1 hr ht1 ht2 R e14 x1
      by_cases c : b t = 32
      · refine t_X11_goesOn_0 hS ?_
        rw [e14]
        refine m_see hS (hC.k R) ⟨fun q => ?_, fun q => ?_⟩
        · rw [if_pos (by omega)] at q; exact absurd c q
        · rw [e14]
          refine ⟨inR_s (by omega) (by omega), ih (t + 1) _ (by omega) (by omega) (by omega) (R.put (by omega)) (by rw [up2_s]; rfl) (fun x a1 a2 => ?_)⟩
          by_cases e : x = t
          · rw [e]; exact ⟨by omega, by unfold isSp; exact decide_eq_true c⟩
          · exact x1 x a1 (by omega)
      · exact first t σ1 (adv_is ⟨ht1, x1, fun _ => by unfold isSp; exact decide_eq_false c⟩) R e14 (fun _ => c)
  exact spc (n - s) s σ rfl (Nat.le_refl _) hs rkm.rf h14 (fun x a1 a2 => by omega)
end MTOK
