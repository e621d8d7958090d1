/-! Pairing: the sets that come up, and what they cost -/
def ml (F : Nat → Nat) : Nat → List Nat
  | 0 => []
  | k + 1 => F k :: ml F k
theorem ml_mem {F : Nat → Nat} {x : Nat} : ∀ {k : Nat}, x ∈ ml F k ↔ ∃ i, i < k ∧ F i = x
  | 0 => ⟨fun h => (by cases h), fun ⟨i, h, _⟩ => by omega⟩
  | k + 1 => by
    rw [ml, List.mem_cons, ml_mem (k := k)]
    constructor
    · rintro (h | ⟨i, h1, h2⟩)
      · exact ⟨k, by omega, h.symm⟩
      · exact ⟨i, by omega, h2⟩
    · rintro ⟨i, h1, h2⟩
      by_cases e : i = k
      · subst e; exact Or.inl h2.symm
      · exact Or.inr ⟨i, by omega, h2⟩
theorem ml_nodup {F : Nat → Nat} : ∀ {k : Nat}, (∀ i j, i < k → j < k → F i = F j → i = j) → (ml F k).Nodup
  | 0, _ => List.nodup_nil
  | k + 1, h => by
    rw [ml, List.nodup_cons]
    refine ⟨fun q => ?_, ml_nodup (fun i j hi hj => h i j (by omega) (by omega))⟩
    obtain ⟨i, h1, h2⟩ := ml_mem.mp q
    have := h i k (by omega) (by omega) h2
    omega
theorem ml_len {F : Nat → Nat} : ∀ {k : Nat}, (ml F k).length = k
  | 0 => rfl
  | k + 1 => by rw [ml, List.length_cons, ml_len]
theorem pig {l : List Nat} {F : Nat → Nat} {k : Nat} (h1 : ∀ i, i < k → F i ∈ l) (h2 : ∀ i j, i < k → j < k → F i = F j → i = j) : k ≤ l.length := by
  have := nodup_le (l := l) (ml_nodup h2) (fun x hx => by
    obtain ⟨i, hi, rfl⟩ := ml_mem.mp hx
    exact h1 i hi)
  rw [ml_len] at this
  exact this
/-- a is the first free one below L, where two are free -/
def isF (L u a : Nat) : Prop := a + 1 < L ∧ u.testBit a = false ∧ ∀ x, x < a → u.testBit x = true
theorem isF_of {L u a : Nat} (h2 : 2 ≤ (fl L u).length) (hb : ∀ x, x < a → u.testBit x = true) (ha : a + 1 < L → u.testBit a = false) (hl : a = 0 ∨ a < L) : isF L u a := by
  by_cases e : a + 1 < L
  · exact ⟨e, ha e, hb⟩
  · exfalso
    have := nodup_le (l := [L - 1]) (fl_nodup L u) (fun x hx => by
      obtain ⟨h3, h4⟩ := fl_mem.mp hx
      have : ¬ x < a := fun q => by rw [hb x q] at h4; cases h4
      rw [List.mem_singleton]; omega)
    simp at this
    omega
theorem isF_fl {L u a : Nat} (h : isF L u a) : fl L u = a :: pf a u L := fl_cons (by have := h.1; omega) h.2.1 h.2.2
theorem isF_next {L u a b : Nat} (h : isF L u a) : fl L (u ||| 2 ^ a ||| 2 ^ b) = rem (pf a u L) b := fl_next (by have := h.1; omega) h.2.1 h.2.2
theorem next_len {L u a b : Nat} (h : isF L u a) (hb : b ∈ pf a u L) : (fl L (u ||| 2 ^ a ||| 2 ^ b)).length + 2 = (fl L u).length := by
  have := rem_len (pf_nodup a u L) hb
  rw [isF_next h, isF_fl h, List.length_cons]
  omega
theorem or_lt {L u a b : Nat} (h : u < 2 ^ L) (ha : a < L) (hb : b < L) : u ||| 2 ^ a ||| 2 ^ b < 2 ^ L :=
  Nat.or_lt_two_pow (Nat.or_lt_two_pow h (Nat.pow_lt_pow_right (by decide) ha)) (Nat.pow_lt_pow_right (by decide) hb)
/-- a set's slot: a set but the empty one has 0 in it and is even, so two of its bits say nothing -/
def slo (u : Nat) : Nat := u / 2 % 4096
def unsl (v : Nat) : Nat := 1 + 2 * v + 8192 * ((1 + (List.range 12).foldl (fun t i => t + v / 2 ^ i % 2) 0) % 2)
set_option maxRecDepth 100000 in
theorem RL_sl : RLs.all (fun u => decide (u = 0) || decide (u = unsl (slo u))) = true := by decide +kernel
theorem slo_inj {u w : Nat} (hu : u ∈ RLs) (hw : w ∈ RLs) (h0 : u ≠ 0) (h1 : w ≠ 0) (h : slo u = slo w) : u = w := by
  have a := List.all_eq_true.mp RL_sl u hu
  have b := List.all_eq_true.mp RL_sl w hw
  rw [Bool.or_eq_true, decide_eq_true_eq, decide_eq_true_eq] at a b
  exact (a.resolve_left h0).trans ((congrArg unsl h).trans (b.resolve_left h1).symm)
theorem slo_lt (u : Nat) : slo u < 4096 := Nat.mod_lt _ (by decide)
theorem slo_int {u : Nat} (hu : u < 16384) : iAnd (iShr (u : Int) 1) 4095 = ((slo u : Nat) : Int) := by
  have e1 := iShr_n (x := u) (k := 1) (by omega) (by omega)
  have h2 : u / 2 ^ 1 ≤ u := Nat.div_le_self _ _
  have e2 := iAnd_n (x := u / 2 ^ 1) (y := 4095) (by omega) (by decide)
  have e3 : u / 2 ^ 1 &&& 4095 = slo u := Nat.and_two_pow_sub_one_eq_mod _ 12
  rw [e3] at e2
  rw [show (1 : Int) = ((1 : Nat) : Int) from rfl, e1]
  exact e2
/-- what is listed: c sets s 1 .. s c -/
def LSb (σ : StT) (L c : Nat) (s : Nat → Nat) : Prop :=
  σ 20 8 = L ∧ σ 20 11 = c ∧ 1 ≤ c ∧ c ≤ 610 ∧ s 1 = 0 ∧ (∀ j, 1 ≤ j → j ≤ c → σ 28 j = s j ∧ (2 ≤ j → σ 30 (slo (s j)) = j ∧ s j ≠ 0) ∧ s j ∈ RLs ∧ s j < 2 ^ L ∧ (fl L (s j)).length % 2 = 0) ∧ ∀ v, v < 4096 → σ 30 v ≠ 0 → ∃ j, 2 ≤ j ∧ j ≤ c ∧ slo (s j) = v
theorem LSb.inj {σ : StT} {L c : Nat} {s : Nat → Nat} (h : LSb σ L c s) {i j : Nat} (i1 : 1 ≤ i) (i2 : i ≤ c) (j1 : 1 ≤ j) (j2 : j ≤ c) (e : s i = s j) : i = j := by
  obtain ⟨hL, hc, c1, c2, hs1, hB, hC⟩ := h
  by_cases a : i = 1
  · by_cases b : j = 1
    · omega
    · exfalso
      subst a
      exact ((hB j j1 j2).2.1 (by omega)).2 (e.symm.trans hs1)
  · by_cases b : j = 1
    · exfalso
      subst b
      exact ((hB i i1 i2).2.1 (by omega)).2 (e.trans hs1)
    · have k1 := ((hB i i1 i2).2.1 (by omega)).1
      have k2 := ((hB j j1 j2).2.1 (by omega)).1
      rw [e, k2] at k1
      omega
/-- from the j-th all that come next below B are listed behind it -/
def clo (L c : Nat) (s : Nat → Nat) (j B : Nat) : Prop := ∀ a b, isF L (s j) a → b < B → b ∈ pf a (s j) L → ∃ k, j < k ∧ k ≤ c ∧ s k = s j ||| 2 ^ a ||| 2 ^ b
def dec (L c : Nat) (s : Nat → Nat) : Prop := ∀ j k, 1 ≤ j → j ≤ k → k ≤ c → (fl L (s k)).length ≤ (fl L (s j)).length
section PAIR
variable {S : ShT} {σ : StT} {Q : Int → StT → Prop}
theorem sp_firstFree {L u : Nat} (hS : SHP S) (hL : σ 20 8 = L) (hL14 : L ≤ 14) (hu : u < 16384) (hQ : ∀ a : Nat, (∀ x, x < a → u.testBit x = true) → (a + 1 < L → u.testBit a = false) → (a = 0 ∨ a < L) → Q a σ) : WPs mX4_firstFree [vR 20, vI (u : Int)] S σ Q := by
  refine e_X4_firstFree hS ?_
  refine lup (I := fun i σ' => σ' = σ ∧ 0 ≤ i ∧ (i = 0 ∨ i < L) ∧ ∀ x : Nat, (x : Int) < i → u.testBit x = true) (W := fun i σ' => AWs mX4_firstFree 2 [(0, vR 20), (1, vI (u : Int)), (2, vI i)] [] S σ' Q) ((L : Int) - 1) ?_ ?_ 0 σ ⟨rfl, by omega, Or.inl rfl, fun x hx => by omega⟩
  · intro i σ' ⟨e, h0, h1, h2⟩ h
    subst e
    obtain ⟨a, rfl⟩ := nat_of h0
    exact t_X4_firstFree_2 hS ⟨inR_s (by omega) (by omega), fun _ => hQ a (fun x hx => h2 x (by omega)) (fun q => by omega) (by omega), fun q => absurd (by rw [hL]; exact h) q⟩
  · intro i σ' ⟨e, h0, h1, h2⟩ h k
    subst e
    obtain ⟨a, rfl⟩ := nat_of h0
    refine t_X4_firstFree_2 hS ⟨inR_s (by omega) (by omega), fun q => absurd q (by rw [hL]; omega), fun _ => ?_⟩
    rw [iBit (by omega) (by omega)]
    cases hb : u.testBit a
    · refine ⟨fun _ => hQ a (fun x hx => h2 x (by omega)) (fun _ => hb) (by omega), fun q => absurd q (by simp)⟩
    · refine ⟨fun q => absurd rfl q, fun _ => ⟨inR_s (by omega) (by omega), k _ ⟨rfl, by omega, by omega, fun x hx => ?_⟩⟩⟩
      by_cases e : x = a
      · subst e; exact hb
      · exact h2 x (by omega)
theorem next_int {u a b : Nat} (hu : u < 16384) (ha : a < 14) (hb : b < 14) : iOr (iOr (u : Int) (iShl 1 (a : Int))) (iShl 1 (b : Int)) = ((u ||| 2 ^ a ||| 2 ^ b : Nat) : Int) := by
  have h1 : 2 ^ a < 2 ^ 14 := Nat.pow_lt_pow_right (by decide) ha
  have h2 : 2 ^ b < 2 ^ 14 := Nat.pow_lt_pow_right (by decide) hb
  have h3 : u ||| 2 ^ a < 2 ^ 14 := Nat.or_lt_two_pow hu h1
  rw [iShl_1 a (by omega), iShl_1 b (by omega), iOr_n (by omega) (by omega), iOr_n (by omega) (by omega)]
/-- a set is put -/
theorem sp_putSet {L c u : Nat} {s : Nat → Nat} (hS : SHP S) (h : LSb σ L c s) (hu : u ∈ RLs) (hu0 : u ≠ 0) (huL : u < 2 ^ L) (hev : (fl L u).length % 2 = 0)
    (h0 : ∀ j, 1 ≤ j → j ≤ c → s j = u → Q 0 σ) (h1 : ∀ σ' : StT, LSb σ' L (c + 1) (fun j => if j = c + 1 then u else s j) → fr [20, 28, 30] σ σ' → (∀ k, k ≠ 11 → σ' 20 k = σ 20 k) → Q 0 σ') : WPs mX4_putSet [vR 20, vI (u : Int)] S σ Q := by
  obtain ⟨hL, hc, c1, c2, hs1, hB, hC⟩ := id h
  have hlt := RL_lt hu
  have hsl := slo_lt u
  refine e_X4_putSet hS ?_
  refine e_X4_slotOf hS ?_
  rw [slo_int hlt, tn_cast]
  refine ⟨⟨by omega, by omega⟩, fun q => ?_, fun q => ?_⟩
  · obtain ⟨j, j1, j2, j3⟩ := hC (slo u) hsl q
    obtain ⟨b1, b2, b3, b4⟩ := hB j (by omega) j2
    exact h0 j (by omega) j2 (slo_inj b3 hu (b2 j1).2 hu0 j3)
  · have hne : ∀ j, 1 ≤ j → j ≤ c → s j ≠ u := fun j j1 j2 e => by
      by_cases e1 : j = 1
      · subst e1
        exact hu0 (e.symm.trans hs1)
      · have := ((hB j j1 j2).2.1 (by omega)).1
        rw [e, q] at this
        omega
    have hlim : c < 610 := by
      have hp := pig (l := RLs) (k := c + 1) (F := fun i => if i = c then u else s (i + 1)) (fun i hi => by
        by_cases e : i = c
        · subst e; simp; exact hu
        · simp only [if_neg e]; exact (hB (i + 1) (by omega) (by omega)).2.2.1) (fun i j hi hj e => by
        by_cases e1 : i = c
        · by_cases e2 : j = c
          · omega
          · simp only [if_pos e1, if_neg e2] at e
            exact absurd e.symm (hne (j + 1) (by omega) (by omega))
        · by_cases e2 : j = c
          · simp only [if_neg e1, if_pos e2] at e
            exact absurd e (hne (i + 1) (by omega) (by omega))
          · simp only [if_neg e1, if_neg e2] at e
            have := h.inj (by omega) (by omega) (by omega) (by omega) e
            omega)
      rw [RL_len] at hp
      omega
    rw [hc]
    refine ⟨fun _ => ⟨inR_s (by omega) (by omega), ⟨by omega, by omega⟩, ⟨by omega, by omega⟩, h1 _ ⟨?_, ?_, by omega, by omega, ?_, ?_, ?_⟩ (((fr.rf.put (by simp)).put (by simp)).put (by simp)) (fun k hk => by rw [up2_a (by decide), up2_a (by decide), up2_i hk])⟩, fun q2 => absurd (by omega) q2⟩
    · rw [up2_a (by decide), up2_a (by decide), up2_i (by decide)]; exact hL
    · rw [up2_a (by decide), up2_a (by decide), up2_s]; rfl
    · exact (if_neg (show ¬ 1 = c + 1 by omega)).trans hs1
    · intro j j1 j2
      rw [show ((c : Int) + 1).toNat = c + 1 from rfl]
      by_cases e : j = c + 1
      · subst e
        simp only [if_pos]
        refine ⟨by rw [up2_a (by decide), up2_s], fun _ => ⟨by rw [up2_s]; rfl, hu0⟩, hu, huL, hev⟩
      · simp only [if_neg e]
        obtain ⟨b1, b2, b3, b4⟩ := hB j j1 (by omega)
        refine ⟨by rw [up2_a (by decide), up2_i e, up2_a (by decide)]; exact b1, fun j3 => ⟨by rw [up2_i (fun z => hne j j1 (by omega) (slo_inj b3 hu (b2 j3).2 hu0 z)), up2_a (by decide), up2_a (by decide)]; exact (b2 j3).1, (b2 j3).2⟩, b3, b4⟩
    · intro w hw hw0
      by_cases e : w = slo u
      · subst e; exact ⟨c + 1, by omega, by omega, by simp⟩
      · rw [up2_i e, up2_a (by decide), up2_a (by decide)] at hw0
        obtain ⟨j, j1, j2, j3⟩ := hC w hw hw0
        exact ⟨j, j1, by omega, (congrArg slo (if_neg (show ¬ j = c + 1 by omega))).trans j3⟩
end PAIR
