/-! tokens of the tape -/
def isAdv (P : Int → Bool) (b : Nat → Int) (n s t : Nat) : Prop := s ≤ t ∧ (∀ x, s ≤ x → x < t → x < n ∧ P (b x) = true) ∧ (t < n → P (b t) = false)
theorem isAdv.uniq {P : Int → Bool} {b : Nat → Int} {n s t t' : Nat} (h : isAdv P b n s t) (k : isAdv P b n s t') : t = t' := by
  rcases Nat.lt_trichotomy t t' with c | c | c
  · have := k.2.1 t h.1 c
    have e := h.2.2 this.1
    rw [this.2] at e; cases e
  · exact c
  · have := h.2.1 t' k.1 c
    have e := k.2.2 this.1
    rw [this.2] at e; cases e
theorem isAdv_has (P : Int → Bool) (b : Nat → Int) (n : Nat) : ∀ (r s : Nat), n - s ≤ r → ∃ t, isAdv P b n s t
  | 0, s, h => ⟨s, Nat.le_refl _, fun x h1 h2 => by omega, fun h => by omega⟩
  | r + 1, s, h => by
    by_cases c : s < n ∧ P (b s) = true
    · obtain ⟨t, t1, t2, t3⟩ := isAdv_has P b n r (s + 1) (by omega)
      refine ⟨t, by omega, fun x h1 h2 => ?_, t3⟩
      by_cases e : x = s
      · rw [e]; exact c
      · exact t2 x (by omega) h2
    · refine ⟨s, Nat.le_refl _, fun x h1 h2 => by omega, fun h => ?_⟩
      cases e : P (b s) with
      | false => rfl
      | true => exact absurd ⟨h, e⟩ c
noncomputable def adv (P : Int → Bool) (b : Nat → Int) (n s : Nat) : Nat := Classical.choose (isAdv_has P b n (n - s) s (Nat.le_refl _))
theorem adv_ok (P : Int → Bool) (b : Nat → Int) (n s : Nat) : isAdv P b n s (adv P b n s) := Classical.choose_spec (isAdv_has P b n (n - s) s (Nat.le_refl _))
theorem adv_is {P : Int → Bool} {b : Nat → Int} {n s t : Nat} (h : isAdv P b n s t) : adv P b n s = t := (adv_ok P b n s).uniq h
theorem adv_le {P : Int → Bool} {b : Nat → Int} {n s : Nat} (h : s ≤ n) : s ≤ adv P b n s ∧ adv P b n s ≤ n := by
  obtain ⟨h1, h2, -⟩ := adv_ok P b n s
  refine ⟨h1, ?_⟩
  by_cases c : adv P b n s ≤ n
  · exact c
  · have := h2 n h (by omega); omega
def isSp (c : Int) : Bool := decide (c = 32)
/-- 1 a letter, 2 a digit, 3 a semicolon, 4 none of them -/
def kd (c : Int) : Int := if 97 ≤ c ∧ c ≤ 122 then 1 else if 48 ≤ c ∧ c ≤ 57 then 2 else if c = 59 then 3 else 4
def isK (k : Int) (c : Int) : Bool := decide (kd c = k)
noncomputable def tS (b : Nat → Int) (n s : Nat) : Nat := adv isSp b n s
noncomputable def tK0 (b : Nat → Int) (n s : Nat) : Int := if tS b n s < n then kd (b (tS b n s)) else 0
noncomputable def tN (b : Nat → Int) (n s : Nat) : Nat := if tK0 b n s = 1 ∨ tK0 b n s = 2 then adv (isK (tK0 b n s)) b n (tS b n s) else if tK0 b n s = 3 then tS b n s + 1 else tS b n s
noncomputable def tK (b : Nat → Int) (n s : Nat) : Int := if (tK0 b n s = 1 ∧ 6 < tN b n s - tS b n s) ∨ (tK0 b n s = 2 ∧ 3 < tN b n s - tS b n s) then 4 else tK0 b n s
/-- digits -/
def vl (b : Nat → Int) (s : Nat) : Nat → Int
  | 0 => 0
  | k + 1 => 10 * vl b s k + b (s + k) - 48
noncomputable def tV (b : Nat → Int) (n s : Nat) : Int := vl b (tS b n s) (tN b n s - tS b n s)
noncomputable def isW (b : Nat → Int) (n s w : Nat) : Bool := decide (tK b n s = 1) && decide (tN b n s - tS b n s = (strCh w).length) && (List.range (strCh w).length).all (fun i => decide (b (tS b n s + i) = (strCh w).getD i 0))
theorem kd_in (c : Int) : kd c = 1 ∨ kd c = 2 ∨ kd c = 3 ∨ kd c = 4 := by
  unfold kd
  by_cases a : 97 ≤ c ∧ c ≤ 122
  · rw [if_pos a]; omega
  · rw [if_neg a]
    by_cases a2 : 48 ≤ c ∧ c ≤ 57
    · rw [if_pos a2]; omega
    · rw [if_neg a2]
      by_cases a3 : c = 59
      · rw [if_pos a3]; omega
      · rw [if_neg a3]; omega
theorem tK0_in (b : Nat → Int) (n s : Nat) : tK0 b n s = 0 ∨ tK0 b n s = 1 ∨ tK0 b n s = 2 ∨ tK0 b n s = 3 ∨ tK0 b n s = 4 := by
  unfold tK0
  split
  · exact Or.inr (kd_in _)
  · exact Or.inl rfl
theorem tS_le {b : Nat → Int} {n s : Nat} (h : s ≤ n) : s ≤ tS b n s ∧ tS b n s ≤ n := adv_le h
theorem tN_le {b : Nat → Int} {n s : Nat} (h : s ≤ n) : tS b n s ≤ tN b n s ∧ tN b n s ≤ n := by
  have h1 := tS_le (b := b) h
  unfold tN
  by_cases c : tK0 b n s = 1 ∨ tK0 b n s = 2
  · rw [if_pos c]; exact adv_le h1.2
  · rw [if_neg c]
    by_cases c2 : tK0 b n s = 3
    · rw [if_pos c2]
      have : tS b n s < n := by
        unfold tK0 at c2
        by_cases d : tS b n s < n
        · exact d
        · rw [if_neg d] at c2; omega
      omega
    · rw [if_neg c2]; omega
/-- a token that is one takes a byte at least -/
theorem tN_lt {b : Nat → Int} {n s : Nat} (h : s ≤ n) (hk : tK b n s = 1 ∨ tK b n s = 2 ∨ tK b n s = 3) : s < tN b n s := by
  have h1 := tS_le (b := b) h
  have hk0 : tK b n s = tK0 b n s ∨ tK b n s = 4 := by
    unfold tK; split
    · exact Or.inr rfl
    · exact Or.inl rfl
  have hk1 : tK0 b n s = 1 ∨ tK0 b n s = 2 ∨ tK0 b n s = 3 := by omega
  have hlt : tS b n s < n := by
    by_cases d : tS b n s < n
    · exact d
    · have : tK0 b n s = 0 := by unfold tK0; rw [if_neg d]
      omega
  have hkd : tK0 b n s = kd (b (tS b n s)) := by unfold tK0; rw [if_pos hlt]
  unfold tN
  by_cases c : tK0 b n s = 1 ∨ tK0 b n s = 2
  · rw [if_pos c]
    obtain ⟨a1, a2, a3⟩ := adv_ok (isK (tK0 b n s)) b n (tS b n s)
    by_cases d : adv (isK (tK0 b n s)) b n (tS b n s) = tS b n s
    · have := a3 (by omega)
      rw [d] at this
      unfold isK at this
      simp at this
      omega
    · omega
  · rw [if_neg c, if_pos (by omega)]; omega
section TOK
variable {S : ShT} {σ : StT} {Q : Int → StT → Prop} {b : Nat → Int} {n s : Nat}
theorem sp_kindOf {c : Int} (hS : SHP S) (hQ : Q (kd c) σ) : WPs mX7_kindOf [vI c] S σ Q := by
  unfold kd at hQ
  have k28 : ¬ (97 ≤ c ∧ c ≤ 122) → ¬ (48 ≤ c ∧ c ≤ 57) → AWs mX7_kindOf 28 [(0, vI c)] [] S σ Q := fun a1 a2 => by
    rw [if_neg a1, if_neg a2] at hQ
    refine t_X7_kindOf_28 hS ⟨fun q => ?_, fun q => ?_⟩
    · rw [if_neg q] at hQ; exact hQ
    · rw [if_pos q] at hQ; exact hQ
  have k14 : ¬ (97 ≤ c ∧ c ≤ 122) → AWs mX7_kindOf 14 [(0, vI c)] [] S σ Q := fun a1 => by
    refine t_X7_kindOf_14 hS ⟨fun q => k28 a1 (by omega), fun q => ⟨fun q2 => k28 a1 (by omega), fun q2 => ?_⟩⟩
    rw [if_neg a1, if_pos (by omega)] at hQ; exact hQ
  refine e_X7_kindOf hS ⟨fun q => k14 (by omega), fun q => ⟨fun q2 => k14 (by omega), fun q2 => ?_⟩⟩
  rw [if_pos (by omega)] at hQ; exact hQ
/-- what a step leaves -/
def atK (σ : StT) (b : Nat → Int) (n s : Nat) : Prop := σ 2 4 = tK b n s ∧ σ 2 5 = tS b n s ∧ (tK b n s ≠ 4 → σ 2 3 = tN b n s) ∧ (tK b n s = 2 → σ 2 6 = tV b n s)
theorem vl_in {b : Nat → Int} {s : Nat} : ∀ (k : Nat), k ≤ 3 → (∀ i, i < k → 48 ≤ b (s + i) ∧ b (s + i) ≤ 57) → 0 ≤ vl b s k ∧ vl b s k < 10 ^ k
  | 0, _, _ => by simp [vl]
  | k + 1, hk, h => by
    have ih := vl_in (b := b) (s := s) k (by omega) (fun i hi => h i (by omega))
    have := h k (by omega)
    unfold vl
    rw [Int.pow_succ]; omega
theorem sp_step (hS : SHP S) (hn : n ≤ 700) (hs : s ≤ n) (h2 : σ 2 2 = n) (h3 : σ 2 3 = s) (hb : ∀ x, x < n → σ 3 x = b x) (hQ : ∀ σ' : StT, atK σ' b n s → fr [2] σ σ' → σ' 2 1 = σ 2 1 → σ' 2 2 = σ 2 2 → Q 0 σ') : WPs mX7_step [vR 2] S σ Q := by
  refine e_X7_step hS ?_
  -- behind the signs of a token
  have fin : ∀ σ1 : StT, fr [2] σ σ1 → σ1 2 1 = σ 2 1 → σ1 2 2 = σ 2 2 → σ1 2 4 = tK0 b n s → σ1 2 5 = tS b n s → σ1 2 3 = tN b n s → (tK0 b n s = 2 → tN b n s - tS b n s ≤ 3 → σ1 2 6 = tV b n s) → AWs mX7_step 183 [(0, vR 2)] [] S σ1 Q := by
    intro σ1 F e1 e2 e4 e5 e3 e6
    have hle := tN_le (b := b) hs
    have last : AWs mX7_step 205 [(0, vR 2)] [] S σ1 Q ∨ (tK0 b n s = 1 ∧ 6 < tN b n s - tS b n s) := by
      by_cases c1 : tK0 b n s = 1 ∧ 6 < tN b n s - tS b n s
      · exact Or.inr c1
      · left
        refine t_X7_step_205 hS ?_
        rw [e4, e3, e5]
        refine ⟨fun q => ?_, fun q => ⟨inR_s (by omega) (by omega), fun q2 => ?_, fun q2 => ?_⟩⟩
        · have hk : tK b n s = tK0 b n s := by unfold tK; rw [if_neg (by omega)]
          exact hQ σ1 ⟨by rw [hk]; exact e4, e5, fun _ => e3, fun c => absurd (hk.symm.trans c) q⟩ F e1 e2
        · have hk : tK b n s = tK0 b n s := by unfold tK; rw [if_neg (by omega)]
          exact hQ σ1 ⟨by rw [hk]; exact e4, e5, fun _ => e3, fun _ => e6 q (by omega)⟩ F e1 e2
        · have hk : tK b n s = 4 := by unfold tK; rw [if_pos (Or.inr ⟨q, by omega⟩)]
          exact hQ _ ⟨by rw [up2_s, hk], by rw [up2_i (by decide)]; exact e5, fun c => absurd hk c, fun c => by rw [hk] at c; omega⟩ (F.put (by simp)) (by rw [up2_i (by decide)]; exact e1) (by rw [up2_i (by decide)]; exact e2)
    refine t_X7_step_183 hS ?_
    rw [e4, e3, e5]
    refine ⟨fun q => ?_, fun q => ⟨inR_s (by omega) (by omega), fun q2 => ?_, fun q2 => ?_⟩⟩
    · rcases last with l | l
      · exact l
      · exact absurd l.1 q
    · have hk : tK b n s = 4 := by unfold tK; rw [if_pos (Or.inl ⟨q, by omega⟩)]
      exact hQ _ ⟨by rw [up2_s, hk], by rw [up2_i (by decide)]; exact e5, fun c => absurd hk c, fun c => by rw [hk] at c; omega⟩ (F.put (by simp)) (by rw [up2_i (by decide)]; exact e1) (by rw [up2_i (by decide)]; exact e2)
    · rcases last with l | l
      · exact l
      · omega
  -- the signs of a token
  have hSle := tS_le (b := b) hs
  have body : ∀ (r t : Nat) (σ1 : StT), n - t = r → tS b n s ≤ t → t ≤ n → fr [2] σ σ1 → σ1 2 1 = σ 2 1 → σ1 2 2 = σ 2 2 → σ1 2 4 = tK0 b n s → σ1 2 5 = tS b n s → σ1 2 3 = t → (tK0 b n s = 1 ∨ tK0 b n s = 2 → ∀ x, tS b n s ≤ x → x < t → x < n ∧ isK (tK0 b n s) (b x) = true) → (tK0 b n s = 3 → t = tS b n s + 1) → (tK0 b n s = 0 ∨ tK0 b n s = 4 → t = tS b n s) → (tK0 b n s = 2 → t - tS b n s ≤ 3 → σ1 2 6 = vl b (tS b n s) (t - tS b n s)) → AWs mX7_step 100 [(0, vR 2)] [] S σ1 Q := by
    intro r
    induction r with
    | zero =>
      intro t σ1 hr ht1 ht2 F e1 e2 e4 e5 e3 x1 x3 x0 ev
      have etn : tN b n s = t := by
        unfold tN
        by_cases c : tK0 b n s = 1 ∨ tK0 b n s = 2
        · rw [if_pos c]; exact adv_is ⟨ht1, x1 c, fun q => by omega⟩
        · rw [if_neg c]
          by_cases c2 : tK0 b n s = 3
          · rw [if_pos c2]; exact (x3 c2).symm
          · rw [if_neg c2]; have := tK0_in b n s; exact (x0 (by omega)).symm
      refine t_X7_step_100 hS ?_
      rw [e2, e3, h2]
      refine ⟨fun _ => fin σ1 F e1 e2 e4 e5 (by rw [etn]; exact e3) (fun q q2 => by unfold tV; rw [etn] at q2 ⊢; exact ev q q2), fun q => absurd (by omega) q⟩
    | succ r ih =>
      intro t σ1 hr ht1 ht2 F e1 e2 e4 e5 e3 x1 x3 x0 ev
      have htn : t < n := by omega
      refine t_X7_step_100 hS ?_
      rw [e2, e3, h2, e4]
      have lp : tK0 b n s = 1 ∨ tK0 b n s = 2 → AWs mX7_step 127 [(0, vR 2)] [] S σ1 Q := fun c => by
        refine t_X7_step_127 hS ?_
        have eb : σ1 3 t = b t := by rw [F 3 (by decide)]; exact hb t htn
        rw [e3, tn_cast, eb]
        refine ⟨⟨by omega, by omega⟩, sp_kindOf hS ⟨fun q => ?_, fun q => ⟨⟨by omega, by omega⟩, inR_s (by omega) (by omega), ?_⟩⟩⟩
        · rw [e4] at q
          have etn : tN b n s = t := by
            unfold tN
            rw [if_pos c]
            exact adv_is ⟨ht1, x1 c, fun _ => by unfold isK; exact decide_eq_false q⟩
          exact fin σ1 F e1 e2 e4 e5 (by rw [etn]; exact e3) (fun q q2 => by unfold tV; rw [etn] at q2 ⊢; exact ev q q2)
        · rw [e4] at q
          rw [e3, tn_cast, eb]
          refine ih (t + 1) _ (by omega) (by omega) (by omega) ((F.put (by simp)).put (by simp)) (by rw [up2_i (by decide), up2_i (by decide)]; exact e1) (by rw [up2_i (by decide), up2_i (by decide)]; exact e2) (by rw [up2_i (by decide), up2_i (by decide)]; exact e4) (by rw [up2_i (by decide), up2_i (by decide)]; exact e5) (by rw [up2_s]; rfl) (fun c2 x a1 a2 => ?_) (fun c3 => by omega) (fun c4 => by omega) (fun c2 c3 => ?_)
          · by_cases e : x = t
            · rw [e]; exact ⟨htn, by unfold isK; exact decide_eq_true q⟩
            · exact x1 c2 x a1 (by omega)
          · have dig : ∀ i, i < t + 1 - tS b n s → 48 ≤ b (tS b n s + i) ∧ b (tS b n s + i) ≤ 57 := fun i hi => by
              have hkd : kd (b (tS b n s + i)) = 2 := by
                by_cases e : tS b n s + i = t
                · rw [e, q, c2]
                · have := (x1 c (tS b n s + i) (by omega) (by omega)).2
                  unfold isK at this
                  rw [c2] at this
                  simpa using this
              unfold kd at hkd
              split at hkd
              · omega
              · split at hkd
                · assumption
                · split at hkd <;> omega
            have v0 := ev c2 (by omega)
            have b0 := vl_in (b := b) (s := tS b n s) (t - tS b n s) (by omega) (fun i hi => dig i (by omega))
            have b1 := dig (t - tS b n s) (by omega)
            have b2 : (10 : Int) ^ (t - tS b n s) ≤ 1000 := by
              have : t - tS b n s = 0 ∨ t - tS b n s = 1 ∨ t - tS b n s = 2 := by omega
              rcases this with q | q | q <;> (rw [q]; decide)
            have et : tS b n s + (t - tS b n s) = t := by omega
            rw [et] at b1
            rw [up2_i (by decide), up2_s, v0, show t + 1 - tS b n s = (t - tS b n s) + 1 by omega]
            rw [wr_id (z := vl b (tS b n s) (t - tS b n s) * 10) (inR_s (by omega) (by omega)), wr_id (z := vl b (tS b n s) (t - tS b n s) * 10 + b t) (inR_s (by omega) (by omega)), wr_id (inR_s (by omega) (by omega))]
            show _ = 10 * vl b (tS b n s) (t - tS b n s) + b (tS b n s + (t - tS b n s)) - 48
            rw [et]; omega
      refine ⟨fun q => absurd q (by omega), fun _ => ⟨fun c => lp (Or.inl c), fun c => ⟨fun c2 => ?_, fun c2 => lp (Or.inr c2)⟩⟩⟩
      have etn : tN b n s = t := by
        unfold tN
        rw [if_neg (by omega)]
        by_cases c3 : tK0 b n s = 3
        · rw [if_pos c3]; exact (x3 c3).symm
        · rw [if_neg c3]; have := tK0_in b n s; exact (x0 (by omega)).symm
      exact fin σ1 F e1 e2 e4 e5 (by rw [etn]; exact e3) (fun q q2 => absurd q c2)
  -- its first sign
  have first : ∀ σ1 : StT, fr [2] σ σ1 → σ1 2 1 = σ 2 1 → σ1 2 2 = σ 2 2 → σ1 2 3 = tS b n s → AWs mX7_step 38 [(0, vR 2)] [] S σ1 Q := by
    intro σ1 F e1 e2 e3
    refine t_X7_step_38 hS ?_
    rw [e2, h2, e3]
    refine ⟨fun q => ?_, fun q => ⟨⟨by omega, by omega⟩, ?_⟩⟩
    · have hk : tK0 b n s = 0 := by unfold tK0; rw [if_neg (by omega)]
      refine body (n - tS b n s) (tS b n s) _ rfl (by omega) (by omega) (((F.put (by simp)).put (by simp)).put (by simp)) ?_ ?_ ?_ ?_ ?_ (fun c => by omega) (fun c => by omega) (fun _ => rfl) (fun c => by omega)
      · simp [up2]; exact e1
      · simp [up2]; exact e2
      · rw [up2_s, hk]
      · simp [up2]
      · simp [up2]; exact e3
    · have eb : σ1 3 (tS b n s) = b (tS b n s) := by rw [F 3 (by decide)]; exact hb _ (by omega)
      have hk : tK0 b n s = kd (b (tS b n s)) := by unfold tK0; rw [if_pos (by omega)]
      rw [tn_cast, eb]
      refine sp_kindOf hS ?_
      rw [← hk]
      refine ⟨fun q => ?_, fun q => ⟨?_, ?_⟩⟩
      · refine body (n - tS b n s) (tS b n s) _ rfl (by omega) (by omega) (((F.put (by simp)).put (by simp)).put (by simp)) ?_ ?_ ?_ ?_ ?_ (fun c x a1 a2 => by omega) (fun c => absurd c q) (fun _ => rfl) (fun c c2 => ?_)
        · simp [up2]; exact e1
        · simp [up2]; exact e2
        · rw [up2_s]
        · simp [up2]
        · simp [up2]; exact e3
        · rw [show tS b n s - tS b n s = 0 by omega]; simp [up2, vl]
      · simp only [up2]; simp; rw [e3]; exact inR_s (by omega) (by omega)
      · refine body (n - (tS b n s + 1)) (tS b n s + 1) _ rfl (by omega) (by omega) ((((F.put (by simp)).put (by simp)).put (by simp)).put (by simp)) ?_ ?_ ?_ ?_ ?_ (fun c => by omega) (fun _ => rfl) (fun c => by omega) (fun c => by omega)
        · simp [up2]; exact e1
        · simp [up2]; exact e2
        · simp [up2]
        · simp [up2]
        · simp [up2]; rw [e3]
  -- spaces
  have spc : ∀ (r t : Nat) (σ1 : StT), n - t = r → s ≤ t → t ≤ n → fr [2] σ σ1 → σ1 2 1 = σ 2 1 → σ1 2 2 = σ 2 2 → σ1 2 3 = t → (∀ x, s ≤ x → x < t → x < n ∧ isSp (b x) = true) → AWs mX7_step 0 [(0, vR 2)] [] S σ1 Q := by
    intro r
    induction r with
    | zero =>
      intro t σ1 hr ht1 ht2 F e1 e2 e3 x1
      have et : tS b n s = t := adv_is ⟨ht1, x1, fun q => by omega⟩
      refine t_X7_step_0 hS ?_
      rw [e2, h2, e3]
      exact ⟨fun _ => first σ1 F e1 e2 (by rw [et]; exact e3), fun q => absurd (by omega) q⟩
    | succ r ih =>
      intro t σ1 hr ht1 ht2 F e1 e2 e3 x1
      have eb : σ1 3 t = b t := by rw [F 3 (by decide)]; exact hb _ (by omega)
      refine t_X7_step_0 hS ?_
      rw [e2, h2, e3, tn_cast, eb]
      refine ⟨fun q => absurd q (by omega), fun _ => ⟨⟨by omega, by omega⟩, fun q => ?_, fun q => ⟨inR_s (by omega) (by omega), ?_⟩⟩⟩
      · have et : tS b n s = t := adv_is ⟨ht1, x1, fun _ => by unfold isSp; exact decide_eq_false q⟩
        exact first σ1 F e1 e2 (by rw [et]; exact e3)
      · refine ih (t + 1) _ (by omega) (by omega) (by omega) (F.put (by simp)) (by rw [up2_i (by decide)]; exact e1) (by rw [up2_i (by decide)]; exact e2) (by rw [up2_s]; rfl) (fun x a1 a2 => ?_)
        by_cases e : x = t
        · rw [e]; exact ⟨by omega, by unfold isSp; exact decide_eq_true q⟩
        · exact x1 x a1 (by omega)
  exact spc (n - s) s σ rfl (Nat.le_refl _) hs fr.rf rfl rfl h3 (fun x a1 a2 => by omega)
end TOK
