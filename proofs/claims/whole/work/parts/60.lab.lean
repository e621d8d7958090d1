/-! labels: the least member of what hangs together; ranks of the least members -/
def LAB (R : Nat → Nat → Prop) (n : Nat) (f : Nat → Nat) : Prop :=
  (∀ i, i < n → f i ≤ i) ∧ (∀ a b, a < n → b < n → R a b → f a = f b) ∧ ∀ g : Nat → Nat, (∀ a b, a < n → b < n → R a b → g a = g b) → ∀ i, i < n → g (f i) = g i
theorem LAB.uniq {R : Nat → Nat → Prop} {n : Nat} {f g : Nat → Nat} (h : LAB R n f) (k : LAB R n g) : ∀ i, i < n → f i = g i := by
  intro i hi
  have h1 := h.2.2 g k.2.1 i hi
  have h2 := k.2.2 f h.2.1 i hi
  have h3 := h.1 i hi
  have h4 := k.1 i hi
  have h5 := k.1 (f i) (by omega)
  have h6 := h.1 (g i) (by omega)
  omega
theorem LAB.idem {R : Nat → Nat → Prop} {n : Nat} {f : Nat → Nat} (h : LAB R n f) {i : Nat} (hi : i < n) : f (f i) = f i := h.2.2 f h.2.1 i hi
theorem LAB.ext {R : Nat → Nat → Prop} {n : Nat} {f g : Nat → Nat} (h : LAB R n f) (he : ∀ i, i < n → g i = f i) : LAB R n g := by
  refine ⟨fun i hi => by rw [he i hi]; exact h.1 i hi, fun a b ha hb hR => by rw [he a ha, he b hb]; exact h.2.1 a b ha hb hR, fun k hk i hi => by rw [he i hi]; exact h.2.2 k hk i hi⟩
theorem LAB.has (R : Nat → Nat → Prop) (n : Nat) : ∃ f, LAB R n f := by
  have h : ∀ i : Nat, ∃ j : Nat, (∀ g : Nat → Nat, (∀ a b, a < n → b < n → R a b → g a = g b) → g j = g i) ∧ ∀ k, k < j → ¬ ∀ g : Nat → Nat, (∀ a b, a < n → b < n → R a b → g a = g b) → g k = g i := fun i => pk_least (fun j => ∀ g : Nat → Nat, (∀ a b, a < n → b < n → R a b → g a = g b) → g j = g i) ⟨i, fun _ _ => rfl⟩
  obtain ⟨f, hf⟩ := Classical.axiomOfChoice h
  refine ⟨f, fun i _ => ?_, fun a b ha hb hR => ?_, fun g hg i _ => (hf i).1 g hg⟩
  · rcases Nat.lt_or_ge i (f i) with h1 | h1
    · exact absurd (fun _ _ => rfl) ((hf i).2 i h1)
    · exact h1
  · rcases Nat.lt_trichotomy (f a) (f b) with h1 | h1 | h1
    · exact absurd (fun g hg => ((hf a).1 g hg).trans (hg a b ha hb hR)) ((hf b).2 (f a) h1)
    · exact h1
    · exact absurd (fun g hg => ((hf b).1 g hg).trans (hg a b ha hb hR).symm) ((hf a).2 (f b) h1)
noncomputable def labF (R : Nat → Nat → Prop) (n : Nat) : Nat → Nat := Classical.choose (LAB.has R n)
theorem labF_ok (R : Nat → Nat → Prop) (n : Nat) : LAB R n (labF R n) := Classical.choose_spec (LAB.has R n)
theorem labF_eq {R : Nat → Nat → Prop} {n : Nat} {f : Nat → Nat} (h : LAB R n f) : ∀ i, i < n → labF R n i = f i := (labF_ok R n).uniq h
/-- how many least members there are below k -/
def rk (f : Nat → Nat) : Nat → Nat
  | 0 => 0
  | k + 1 => rk f k + (if f k = k then 1 else 0)
/-- the m-th least member -/
def nth (f : Nat → Nat) : Nat → Nat → Nat
  | 0, _ => 0
  | k + 1, m => if f k = k ∧ rk f k = m then k else nth f k m
theorem rk_le (f : Nat → Nat) : ∀ k, rk f k ≤ k
  | 0 => Nat.le_refl 0
  | k + 1 => by
    have := rk_le f k
    unfold rk
    split <;> omega
theorem rk_mono (f : Nat → Nat) {a b : Nat} (h : a ≤ b) : rk f a ≤ rk f b := by
  induction b with
  | zero => have : a = 0 := by omega
            rw [this]; exact Nat.le_refl _
  | succ b ih =>
    by_cases e : a = b + 1
    · rw [e]; exact Nat.le_refl _
    · have := ih (by omega)
      show rk f a ≤ rk f b + _
      omega
theorem rk_lt {f : Nat → Nat} {a b : Nat} (h : a < b) (hf : f a = a) : rk f a < rk f b := by
  have h1 : rk f (a + 1) = rk f a + 1 := by show rk f a + _ = _; rw [if_pos hf]
  have h2 := rk_mono f (show a + 1 ≤ b from h)
  omega
theorem rk_inj {f : Nat → Nat} {a b : Nat} (ha : f a = a) (hb : f b = b) (h : rk f a = rk f b) : a = b := by
  rcases Nat.lt_trichotomy a b with h1 | h1 | h1
  · have := rk_lt h1 ha; omega
  · exact h1
  · have := rk_lt h1 hb; omega
theorem nth_rk {f : Nat → Nat} {n a : Nat} (h : a < n) (hf : f a = a) : nth f n (rk f a) = a := by
  induction n with
  | zero => omega
  | succ n ih =>
    unfold nth
    by_cases e : f n = n ∧ rk f n = rk f a
    · rw [if_pos e]; exact rk_inj e.1 hf e.2
    · rw [if_neg e]
      refine ih ?_
      by_cases e2 : a = n
      · subst e2; exact absurd ⟨hf, rfl⟩ e
      · omega
/-- every number below the count has its least member -/
theorem nth_ok {f : Nat → Nat} {n m : Nat} (h : m < rk f n) : nth f n m < n ∧ f (nth f n m) = nth f n m ∧ rk f (nth f n m) = m := by
  induction n with
  | zero => exact absurd h (Nat.not_lt_zero _)
  | succ n ih =>
    unfold nth
    by_cases e : f n = n ∧ rk f n = m
    · rw [if_pos e]; exact ⟨by omega, e⟩
    · rw [if_neg e]
      have h2 : m < rk f n := by
        have h3 : rk f (n + 1) = rk f n + (if f n = n then 1 else 0) := rfl
        by_cases e2 : f n = n
        · rw [if_pos e2] at h3
          have : rk f n ≠ m := fun q => e ⟨e2, q⟩
          omega
        · rw [if_neg e2] at h3; omega
      obtain ⟨h4, h5⟩ := ih h2
      exact ⟨by omega, h5⟩
theorem rk_ext {f g : Nat → Nat} {n : Nat} (h : ∀ i, i < n → f i = g i) : ∀ k, k ≤ n → rk f k = rk g k := by
  intro k hk
  induction k with
  | zero => rfl
  | succ k ih =>
    show rk f k + _ = rk g k + _
    rw [ih (by omega), h k (by omega)]
theorem nth_ext {f g : Nat → Nat} {n : Nat} (h : ∀ i, i < n → f i = g i) (m : Nat) : ∀ k, k ≤ n → nth f k m = nth g k m := by
  intro k hk
  induction k with
  | zero => rfl
  | succ k ih =>
    unfold nth
    rw [ih (by omega), h k (by omega), rk_ext h k (by omega)]
