/-! sums and counts; as many odd ones as two by two; no more parts than strokes -/
def sm (f : Nat → Nat) : Nat → Nat
  | 0 => 0
  | k + 1 => sm f k + f k
theorem sm_ext {f g : Nat → Nat} {n : Nat} (h : ∀ i, i < n → f i = g i) : ∀ k, k ≤ n → sm f k = sm g k := by
  intro k hk
  induction k with
  | zero => rfl
  | succ k ih => show sm f k + _ = sm g k + _; rw [ih (by omega), h k (by omega)]
theorem sm_add (f g : Nat → Nat) : ∀ n, sm (fun i => f i + g i) n = sm f n + sm g n
  | 0 => rfl
  | n + 1 => by
    have := sm_add f g n
    show sm (fun i => f i + g i) n + (f n + g n) = sm f n + f n + (sm g n + g n)
    omega
theorem sm_0 : ∀ n, sm (fun _ => 0) n = 0
  | 0 => rfl
  | n + 1 => by show sm (fun _ => 0) n + 0 = 0; rw [sm_0 n]
/-- only one place counts -/
theorem sm_one {n k : Nat} {v : Nat} (h : k < n) : sm (fun i => if i = k then v else 0) n = v := by
  induction n with
  | zero => omega
  | succ n ih =>
    show sm (fun i => if i = k then v else 0) n + (if n = k then v else 0) = v
    by_cases e : n = k
    · subst e
      rw [if_pos rfl, sm_ext (g := fun _ => 0) (n := n) (fun i hi => if_neg (by omega)) n (Nat.le_refl _), sm_0]
      omega
    · rw [if_neg e, ih (by omega)]; omega
theorem cnt_sm (P : Nat → Bool) : ∀ n, cnt P n = sm (fun i => if P i = true then 1 else 0) n
  | 0 => rfl
  | n + 1 => by show cnt P n + _ = sm _ n + _; rw [cnt_sm P n]
/-- counting by classes: each e is in just one class below M -/
theorem sm_cnt (F : Nat → Nat) (W : Nat → Bool) {M : Nat} : ∀ n, (∀ e, e < n → F e < M) → sm (fun m => if W m = true then cnt (fun e => decide (F e = m)) n else 0) M = cnt (fun e => W (F e)) n
  | 0, _ => by
    rw [sm_ext (g := fun _ => 0) (n := M) (fun i _ => by show (if W i = true then 0 else 0) = 0; split <;> rfl) M (Nat.le_refl _), sm_0]; rfl
  | n + 1, h => by
    have ih := sm_cnt F W (M := M) n (fun e he => h e (by omega))
    show _ = cnt (fun e => W (F e)) n + (if W (F n) = true then 1 else 0)
    rw [← ih, ← sm_one (n := M) (k := F n) (v := if W (F n) = true then 1 else 0) (h n (by omega)), ← sm_add]
    refine sm_ext (n := M) (fun m hm => ?_) M (Nat.le_refl _)
    rw [cnt_s]
    by_cases e : m = F n
    · subst e
      simp only [decide_true, if_true]
      split <;> simp
    · rw [if_neg e]
      have e2 : ¬ F n = m := fun q => e q.symm
      simp [e2]
/-- odd summands -/
theorem sm_par (f : Nat → Nat) : ∀ n, sm f n % 2 = cnt (fun i => decide (f i % 2 = 1)) n % 2
  | 0 => rfl
  | n + 1 => by
    have := sm_par f n
    show (sm f n + f n) % 2 = _
    rw [cnt_s]
    by_cases e : f n % 2 = 1
    · simp only [e, decide_true, if_true]; omega
    · simp only [e, decide_false]; simp; omega
theorem cnt_two (P : Nat → Bool) (h : ∀ s, P (2 * s) = P (2 * s + 1)) : ∀ n, cnt P (2 * n) = 2 * cnt (fun s => P (2 * s)) n
  | 0 => rfl
  | n + 1 => by
    have ih := cnt_two P h n
    show cnt P (2 * n) + (if P (2 * n) = true then 1 else 0) + (if P (2 * n + 1) = true then 1 else 0) = 2 * (cnt (fun s => P (2 * s)) n + (if P (2 * n) = true then 1 else 0))
    rw [ih, ← h n]
    split <;> omega
/-- in every part there is an even number of odd meetings -/
theorem ocn_even (G : Geo) (p : Nat) : ocn G p % 2 = 0 := by
  have h1 := sm_cnt (mt G) (fun m => decide (pt G m = p)) (M := mcn G) (2 * G.1) (fun e he => mt_lt he)
  have h2 := cnt_ext (P := fun e => decide (pt G (mt G e) = p)) (R := fun e => decide (e < 2 * G.1) && decide (pt G (mt G e) = p)) (n := 2 * G.1) (fun i hi => by simp [hi]) (2 * G.1) (Nat.le_refl _)
  have h3 := cnt_two (fun e => decide (e < 2 * G.1) && decide (pt G (mt G e) = p)) (fun s => by
    by_cases hs : s < G.1
    · simp [show 2 * s < 2 * G.1 by omega, show 2 * s + 1 < 2 * G.1 by omega, pt_kr hs]
    · simp [show ¬ 2 * s < 2 * G.1 by omega, show ¬ 2 * s + 1 < 2 * G.1 by omega]) G.1
  rw [h2, h3] at h1
  have h4 := sm_par (fun m => if decide (pt G m = p) = true then cnt (fun e => decide (mt G e = m)) (2 * G.1) else 0) (mcn G)
  rw [h1] at h4
  have h5 : ocn G p = cnt (fun i => decide ((if decide (pt G i = p) = true then cnt (fun e => decide (mt G e = i)) (2 * G.1) else 0) % 2 = 1)) (mcn G) := by
    unfold ocn
    refine cnt_ext (n := mcn G) (fun i hi => ?_) (mcn G) (Nat.le_refl _)
    unfold odd ecn
    by_cases e : pt G i = p <;> simp [e]
  rw [h5]
  omega
/-- what is onto isn't smaller -/
theorem onto_le : ∀ (n k : Nat) (F : Nat → Nat), (∀ p, p < k → ∃ s, s < n ∧ F s = p) → k ≤ n
  | 0, k, F, h => by
    cases k with
    | zero => exact Nat.le_refl 0
    | succ k => obtain ⟨s, hs, -⟩ := h 0 (by omega); omega
  | n + 1, k, F, h => by
    cases k with
    | zero => omega
    | succ k =>
      have := onto_le n k (fun s => if F s < F n then F s else F s - 1) (fun p hp => by
        by_cases e : p < F n
        · obtain ⟨s, hs, hs2⟩ := h p (by omega)
          refine ⟨s, ?_, by show (if F s < F n then F s else F s - 1) = p; rw [if_pos (by omega)]; exact hs2⟩
          by_cases q : s = n
          · subst q; omega
          · omega
        · obtain ⟨s, hs, hs2⟩ := h (p + 1) (by omega)
          refine ⟨s, ?_, by show (if F s < F n then F s else F s - 1) = p; rw [if_neg (by omega)]; omega⟩
          by_cases q : s = n
          · subst q; omega
          · omega)
      omega
theorem pcn_le_n (G : Geo) : pcn G ≤ G.1 := by
  refine onto_le G.1 (pcn G) (fun s => pt G (mt G (2 * s))) (fun p hp => ?_)
  obtain ⟨h1, h2⟩ := fm_ok hp
  obtain ⟨h3, h4⟩ := fe_ok h1
  refine ⟨fe G (fm G p) / 2, by omega, ?_⟩
  show pt G (mt G (2 * (fe G (fm G p) / 2))) = p
  by_cases e : fe G (fm G p) % 2 = 0
  · rw [show 2 * (fe G (fm G p) / 2) = fe G (fm G p) by omega, h4, h2]
  · rw [pt_kr (by omega), show 2 * (fe G (fm G p) / 2) + 1 = fe G (fm G p) by omega, h4, h2]
