/-! the reference: sets of odd meetings -/
def msb (L u : Nat) : List Nat := (List.range L).filter (fun b => u.testBit b)
def mfb (a u b : Nat) : List Nat := (List.range b).filter (fun x => decide (a < x) && u.testBit x)
theorem mfb_s (a u b : Nat) : mfb a u (b + 1) = if a < b ∧ u.testBit b = true then mfb a u b ++ [b] else mfb a u b := by
  unfold mfb
  rw [List.range_succ, List.filter_append]
  by_cases h : a < b ∧ u.testBit b = true
  · rw [if_pos h]; simp [h]
  · rw [if_neg h]
    by_cases h1 : a < b
    · have : u.testBit b = false := by
        cases q : u.testBit b
        · rfl
        · exact absurd ⟨h1, q⟩ h
      simp [h1, this]
    · simp [h1]
theorem mfb_mem {a u b x : Nat} : x ∈ mfb a u b ↔ x < b ∧ a < x ∧ u.testBit x = true := by unfold mfb; simp
theorem msb_mem {L u x : Nat} : x ∈ msb L u ↔ x < L ∧ u.testBit x = true := by unfold msb; simp
theorem msb_nodup (L u : Nat) : (msb L u).Nodup := List.nodup_range.filter _
theorem mfb_nodup (a u b : Nat) : (mfb a u b).Nodup := List.nodup_range.filter _
theorem msb_cons {L u a : Nat} (ha : a < L) (h0 : u.testBit a = true) (h1 : ∀ x, x < a → u.testBit x = false) : msb L u = a :: mfb a u L := by
  have key : ∀ k, (List.range (a + 1 + k)).filter (fun b => u.testBit b) = a :: mfb a u (a + 1 + k) := by
    intro k
    induction k with
    | zero =>
      rw [Nat.add_zero, List.range_succ, List.filter_append]
      have e1 : (List.range a).filter (fun b => u.testBit b) = [] := List.filter_eq_nil_iff.mpr (fun x hx => by simp [h1 x (List.mem_range.mp hx)])
      have e2 : mfb a u (a + 1) = [] := List.filter_eq_nil_iff.mpr (fun x hx => by have := List.mem_range.mp hx; simp; omega)
      rw [e1, e2]; simp [h0]
    | succ k ih =>
      rw [← Nat.add_assoc, List.range_succ, List.filter_append, ih, mfb_s]
      by_cases e : u.testBit (a + 1 + k) = true
      · rw [if_pos ⟨by omega, e⟩]; simp [e]
      · rw [if_neg (fun q => e q.2)]; simp [e]
  have := key (L - (a + 1))
  rw [show a + 1 + (L - (a + 1)) = L by omega] at this
  exact this
theorem msb_rest {L u a b : Nat} (h1 : ∀ x, x < a → u.testBit x = false) : msb L (clr u (2 ^ a ||| 2 ^ b)) = rem (mfb a u L) b := by
  unfold msb rem mfb
  rw [List.filter_filter]
  apply List.filter_congr
  intro x hx
  rw [clr_bit, Nat.testBit_or, Nat.testBit_two_pow, Nat.testBit_two_pow]
  by_cases e1 : x < a
  · simp [h1 x e1]
  · by_cases e2 : a = x
    · subst e2; simp
    · have e3 : a < x := by omega
      by_cases e4 : b = x
      · subst e4; simp
      · have e5 : ¬ x = b := fun q => e4 q.symm
        simp [e2, e3, e4, e5]
theorem clr_lt {u a m : Nat} (hu : u.testBit a = true) (hm : m.testBit a = true) : clr u m < u := by
  have h1 : clr u m ≤ u := by
    have : clr u m &&& u = clr u m := by
      apply Nat.eq_of_testBit_eq
      intro i
      rw [Nat.testBit_and, clr_bit]
      cases u.testBit i <;> simp
    rw [← this]; exact Nat.and_le_right
  have h2 : clr u m ≠ u := fun e => by
    have := clr_bit u m a
    rw [e, hu, hm] at this
    simp at this
  omega
theorem bits_0 {u L : Nat} (hu : u < 2 ^ L) (h : ∀ x, x < L → u.testBit x = false) : u = 0 := by
  apply Nat.eq_of_testBit_eq
  intro i
  rw [Nat.zero_testBit]
  by_cases c : i < L
  · exact h i c
  · exact Nat.testBit_lt_two_pow (Nat.lt_of_lt_of_le hu (Nat.pow_le_pow_right (by omega) (by omega)))
/-- the least of a set's pairs; none where it is odd -/
def lea (D : Nat → Nat → Int) (L u : Nat) : Int := if (msb L u).length % 2 = 0 then bl D ((msb L u).length / 2) (msb L u) else 1000000
section MBITS
variable {S : ShT} {σ : StT} {Q : Int → StT → Prop} {G : Geo}
theorem m_lowest {u : Nat} (hS : SHP S) (h0 : 0 < u) (hu : u < 16384) (hQ : ∀ a : Nat, a < 14 → u.testBit a = true → (∀ x, x < a → u.testBit x = false) → Q (a : Int) σ) : WPs mX11_lowest [vI (u : Int)] S σ Q := by
  refine e_X11_lowest hS ?_
  have key : ∀ (r k : Nat), r + k = 14 → (∀ x, x < k → u.testBit x = false) → AWs mX11_lowest 2 [(0, vI (u : Int)), (1, vI (k : Int))] [] S σ Q := by
    intro r
    induction r with
    | zero => intro k hk hx; exact absurd (bits_0 (L := 14) (by omega) (fun x hx' => hx x (by omega))) (by omega)
    | succ r ih =>
      intro k hk hx
      refine t_X11_lowest_2 hS ?_
      rw [iBit (by omega) (by omega)]
      cases e : u.testBit k with
      | true => exact ⟨fun _ => hQ k (by omega) e hx, fun q => absurd q (by decide)⟩
      | false =>
        refine ⟨fun q => absurd rfl q, fun _ => ⟨inR_s (by omega) (by omega), ih (k + 1) (by omega) (fun x hx' => ?_)⟩⟩
        by_cases c : x = k
        · rw [c]; exact e
        · exact hx x (by omega)
  exact key 14 0 rfl (fun x hx => by omega)
theorem m_far {a b : Nat} (hS : SHP S) (h : rG σ G) (hok : okG G) (hM : ∀ k, k < mcn G → σ 132 k = fe G k) (ha : a < mcn G) (hb : b < mcn G) (hQ : Q (mds G a b) σ) : WPs mX11_far [vR 125, vI (a : Int), vI (b : Int)] S σ Q := by
  have hml := mcn_le G
  have hn := hok.1
  refine e_X11_far hS ?_
  rw [tn_cast, tn_cast, hM a ha, hM b hb]
  exact ⟨⟨by omega, by omega⟩, ⟨by omega, by omega⟩, m_apart hS h hok (fe_ok ha).1 (fe_ok hb).1 hQ⟩
theorem mskI {k o : Nat} (hk : k < 14) (ho : o < 14) : iOr (iShl 1 (k : Int)) (iShl 1 (o : Int)) = ((2 ^ k ||| 2 ^ o : Nat) : Int) := by
  have b1 : (2 : Nat) ^ k < 2 ^ 31 := Nat.pow_lt_pow_right (by omega) (by omega)
  have b2 : (2 : Nat) ^ o < 2 ^ 31 := Nat.pow_lt_pow_right (by omega) (by omega)
  rw [iShl_1 k (by omega), iShl_1 o (by omega), iOr_n b1 b2]
end MBITS
