/-! the best pairs of a row of numbers -/
/-- the first of the least -/
def amin (v : Nat → Int) : List Nat → Nat
  | [] => 0
  | b :: t => match t with
    | [] => b
    | c :: t' => if v b ≤ v (amin v (c :: t')) then b else amin v (c :: t')
theorem amin_1 (v : Nat → Int) (b : Nat) : amin v [b] = b := rfl
theorem amin_2 (v : Nat → Int) (b c : Nat) (t : List Nat) : amin v (b :: c :: t) = if v b ≤ v (amin v (c :: t)) then b else amin v (c :: t) := rfl
theorem amin_snoc (v : Nat → Int) (x : Nat) : ∀ p : List Nat, p ≠ [] → amin v (p ++ [x]) = if v x < v (amin v p) then x else amin v p
  | [], h => absurd rfl h
  | [b], _ => by
    show (if v b ≤ v x then b else x) = if v x < v b then x else b
    by_cases e : v b ≤ v x
    · rw [if_pos e, if_neg (by omega)]
    · rw [if_neg e, if_pos (by omega)]
  | b :: c :: t, _ => by
    have ih := amin_snoc v x (c :: t) (by simp)
    show amin v (b :: c :: (t ++ [x])) = _
    rw [amin_2, amin_2]
    have e1 : c :: (t ++ [x]) = (c :: t) ++ [x] := rfl
    rw [e1, ih]
    by_cases h1 : v x < v (amin v (c :: t))
    · rw [if_pos h1]
      by_cases h2 : v b ≤ v x
      · rw [if_pos h2, if_pos (show v b ≤ v (amin v (c :: t)) by omega), if_neg (by omega)]
      · rw [if_neg h2]
        by_cases h3 : v b ≤ v (amin v (c :: t))
        · rw [if_pos h3, if_pos (by omega)]
        · rw [if_neg h3, if_pos h1]
    · rw [if_neg h1]
      by_cases h3 : v b ≤ v (amin v (c :: t))
      · rw [if_pos h3, if_neg (by omega)]
      · rw [if_neg h3, if_neg h1]
theorem amin_mem (v : Nat → Int) : ∀ p : List Nat, p ≠ [] → amin v p ∈ p
  | [], h => absurd rfl h
  | [b], _ => by simp [amin]
  | b :: c :: t, _ => by
    have ih := amin_mem v (c :: t) (by simp)
    rw [amin_2]
    split
    · exact List.mem_cons_self
    · exact List.mem_cons_of_mem _ ih
theorem amin_le (v : Nat → Int) : ∀ (p : List Nat) (x : Nat), x ∈ p → v (amin v p) ≤ v x
  | [], _, h => by cases h
  | [b], x, h => by rw [List.mem_singleton.mp h]; exact Int.le_refl _
  | b :: c :: t, x, h => by
    have ih := amin_le v (c :: t)
    rw [amin_2]
    rcases List.mem_cons.mp h with h | h
    · subst h; split
      · exact Int.le_refl _
      · omega
    · have := ih x h
      split <;> omega
theorem amin_ext {v w : Nat → Int} : ∀ (p : List Nat), (∀ x ∈ p, v x = w x) → amin v p = amin w p
  | [], _ => rfl
  | [_], _ => rfl
  | b :: c :: t, h => by
    have ih := amin_ext (c :: t) (fun x hx => h x (List.mem_cons_of_mem _ hx))
    have hm := amin_mem w (c :: t) (by simp)
    rw [amin_2, amin_2, ih, h b List.mem_cons_self, h _ (List.mem_cons_of_mem _ hm)]
/-- the first of the least is the first that comes down to it -/
theorem amin_first (v : Nat → Int) : ∀ (p q : List Nat) (x : Nat), (∀ y ∈ p, v (amin v (p ++ x :: q)) < v y) → v x = v (amin v (p ++ x :: q)) → amin v (p ++ x :: q) = x
  | [], [], x, _, _ => rfl
  | [], c :: t, x, _, h => by
    show amin v (x :: c :: t) = x
    have hle := amin_le v (x :: c :: t) (amin v (c :: t)) (List.mem_cons_of_mem _ (amin_mem v (c :: t) (by simp)))
    have h' : v x = v (amin v (x :: c :: t)) := h
    rw [amin_2, if_pos (by omega)]
  | b :: p, q, x, hp, h => by
    obtain ⟨c, t, e⟩ : ∃ c t, p ++ x :: q = c :: t := by
      cases p with
      | nil => exact ⟨x, q, rfl⟩
      | cons c p => exact ⟨c, p ++ x :: q, rfl⟩
    have e2 : b :: p ++ x :: q = b :: c :: t := by rw [List.cons_append, e]
    have hb : v (amin v (b :: c :: t)) < v b := by have := hp b List.mem_cons_self; rw [e2] at this; exact this
    have e3 : amin v (b :: c :: t) = amin v (c :: t) := by
      rw [amin_2] at hb ⊢
      split at hb
      · omega
      · rename_i z; rw [if_neg z]
    have ih := amin_first v p q x (fun y hy => by have := hp y (List.mem_cons_of_mem _ hy); rw [e2, e3, ← e] at this; exact this) (by rw [e2, e3, ← e] at h; exact h)
    rw [e2, e3, ← e]; exact ih
def rem (t : List Nat) (b : Nat) : List Nat := t.filter (fun x => !(x == b))
def bl (D : Nat → Nat → Int) : Nat → List Nat → Int
  | 0, _ => 0
  | _ + 1, [] => 0
  | k + 1, a :: t => D a (amin (fun b => D a b + bl D k (rem t b)) t) + bl D k (rem t (amin (fun b => D a b + bl D k (rem t b)) t))
/-- the partner of the first -/
def prt1 (D : Nat → Nat → Int) (k a : Nat) (t : List Nat) : Nat := amin (fun b => D a b + bl D k (rem t b)) t
def mat (D : Nat → Nat → Int) : Nat → List Nat → List (Nat × Nat)
  | 0, _ => []
  | _ + 1, [] => []
  | k + 1, a :: t => (a, prt1 D k a t) :: mat D k (rem t (prt1 D k a t))
theorem rem_len {t : List Nat} {b : Nat} (hn : t.Nodup) (hb : b ∈ t) : (rem t b).length + 1 = t.length := by
  induction t with
  | nil => cases hb
  | cons c t ih =>
    rw [List.nodup_cons] at hn
    unfold rem
    by_cases e : c = b
    · subst e
      rw [List.filter_cons_of_neg (by simp), List.filter_eq_self.mpr (fun x hx => by
        have : x ≠ c := fun q => hn.1 (q ▸ hx)
        simp [this])]
      rfl
    · have hb2 : b ∈ t := (List.mem_cons.mp hb).resolve_left (fun q => e q.symm)
      rw [List.filter_cons_of_pos (by simp [e])]
      have := ih hn.2 hb2
      show (rem t b).length + 1 + 1 = t.length + 1
      omega
theorem rem_nodup {t : List Nat} {b : Nat} (hn : t.Nodup) : (rem t b).Nodup := hn.filter _
theorem rem_mem {t : List Nat} {b x : Nat} : x ∈ rem t b ↔ x ∈ t ∧ x ≠ b := by unfold rem; simp
theorem bl_in {D : Nat → Nat → Int} (hD : ∀ a b, 0 ≤ D a b ∧ D a b ≤ 400) : ∀ (k : Nat) (l : List Nat), 0 ≤ bl D k l ∧ bl D k l ≤ 400 * k
  | 0, _ => ⟨Int.le_refl 0, by simp [bl]⟩
  | k + 1, [] => ⟨Int.le_refl 0, by simp [bl]; omega⟩
  | k + 1, a :: t => by
    have h1 := hD a (prt1 D k a t)
    have h2 := bl_in hD k (rem t (prt1 D k a t))
    have e : bl D (k + 1) (a :: t) = D a (prt1 D k a t) + bl D k (rem t (prt1 D k a t)) := rfl
    rw [e]
    push_cast
    omega
/-- which numbers below L aren't in a set -/
def fl (L u : Nat) : List Nat := (List.range L).filter (fun b => !u.testBit b)
def pf (a u b : Nat) : List Nat := (List.range b).filter (fun x => decide (a < x) && !u.testBit x)
theorem pf_s (a u b : Nat) : pf a u (b + 1) = if a < b ∧ u.testBit b = false then pf a u b ++ [b] else pf a u b := by
  unfold pf
  rw [List.range_succ, List.filter_append]
  by_cases h : a < b ∧ u.testBit b = false
  · rw [if_pos h]; simp [h]
  · rw [if_neg h]
    by_cases h1 : a < b
    · have : u.testBit b = true := by
        cases q : u.testBit b
        · exact absurd ⟨h1, q⟩ h
        · rfl
      simp [h1, this]
    · simp [h1]
theorem pf_mem {a u b x : Nat} : x ∈ pf a u b ↔ x < b ∧ a < x ∧ u.testBit x = false := by unfold pf; simp
theorem fl_mem {L u x : Nat} : x ∈ fl L u ↔ x < L ∧ u.testBit x = false := by unfold fl; simp
theorem fl_nodup (L u : Nat) : (fl L u).Nodup := List.nodup_range.filter _
theorem pf_nodup (a u b : Nat) : (pf a u b).Nodup := List.nodup_range.filter _
/-- the first free one, and the others -/
theorem fl_cons {L u a : Nat} (ha : a < L) (h0 : u.testBit a = false) (h1 : ∀ x, x < a → u.testBit x = true) : fl L u = a :: pf a u L := by
  have key : ∀ k, (List.range (a + 1 + k)).filter (fun b => !u.testBit b) = a :: pf a u (a + 1 + k) := by
    intro k
    induction k with
    | zero =>
      rw [Nat.add_zero, List.range_succ, List.filter_append]
      have e1 : (List.range a).filter (fun b => !u.testBit b) = [] := List.filter_eq_nil_iff.mpr (fun x hx => by simp [h1 x (List.mem_range.mp hx)])
      have e2 : pf a u (a + 1) = [] := List.filter_eq_nil_iff.mpr (fun x hx => by have := List.mem_range.mp hx; simp; omega)
      rw [e1, e2]; simp [h0]
    | succ k ih =>
      rw [← Nat.add_assoc, List.range_succ, List.filter_append, ih, pf_s]
      by_cases e : u.testBit (a + 1 + k) = false
      · rw [if_pos ⟨by omega, e⟩]; simp [e]
      · rw [if_neg (fun q => e q.2)]; simp [e]
  have := key (L - (a + 1))
  rw [show a + 1 + (L - (a + 1)) = L by omega] at this
  exact this
theorem bit_set (u a b x : Nat) : (u ||| 2 ^ a ||| 2 ^ b).testBit x = (u.testBit x || decide (a = x) || decide (b = x)) := by
  rw [Nat.testBit_or, Nat.testBit_or, Nat.testBit_two_pow, Nat.testBit_two_pow]
theorem fl_next {L u a b : Nat} (ha : a < L) (h0 : u.testBit a = false) (h1 : ∀ x, x < a → u.testBit x = true) : fl L (u ||| 2 ^ a ||| 2 ^ b) = rem (pf a u L) b := by
  unfold fl rem pf
  rw [List.filter_filter]
  apply List.filter_congr
  intro x hx
  rw [bit_set]
  by_cases e1 : x < a
  · simp [h1 x e1, show ¬ a < x by omega]
  · by_cases e2 : a = x
    · subst e2; simp
    · have e3 : a < x := by omega
      by_cases e4 : b = x
      · subst e4; simp
      · have e5 : ¬ x = b := fun q => e4 q.symm
        simp [e2, e3, e4, e5]
