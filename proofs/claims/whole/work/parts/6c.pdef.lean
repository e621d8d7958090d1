/-! the pairs of a geometry; loops with more state -/
theorem lupg {α : Type} {I W : Int → α → Prop} (n : Int) (hx : ∀ i x, I i x → n ≤ i → W i x) (hs : ∀ i x, I i x → i < n → (∀ y, I (i + 1) y → W (i + 1) y) → W i x) : ∀ i x, I i x → W i x := by
  have key : ∀ (k : Nat) (i : Int) (x : α), (n - i).toNat = k → I i x → W i x := by
    intro k
    induction k with
    | zero => intro i x hk hI; exact hx i x hI (by omega)
    | succ k ih => intro i x hk hI; exact hs i x hI (by omega) (fun y h => ih (i + 1) y (by omega) h)
  intro i x h
  exact key _ i x rfl h
/-- down to n -/
theorem ldn {α : Type} {I W : Int → α → Prop} (n : Int) (hx : ∀ i x, I i x → i < n → W i x) (hs : ∀ i x, I i x → n ≤ i → (∀ y, I (i + -1) y → W (i + -1) y) → W i x) : ∀ i x, I i x → W i x := by
  have key : ∀ (k : Nat) (i : Int) (x : α), (i + 1 - n).toNat = k → I i x → W i x := by
    intro k
    induction k with
    | zero => intro i x hk hI; exact hx i x hI (by omega)
    | succ k ih => intro i x hk hI; exact hs i x hI (by omega) (fun y h => ih (i + -1) y (by omega) h)
  intro i x h
  exact key _ i x rfl h
theorem cnt_filter (P : Nat → Bool) : ∀ n, ((List.range n).filter P).length = cnt P n
  | 0 => rfl
  | n + 1 => by
    rw [List.range_succ, List.filter_append, List.length_append, cnt_filter P n, cnt_s]
    cases h : P n <;> simp [h]
/-- the odd meetings of a part, in their order -/
noncomputable def OL (G : Geo) (p : Nat) : List Nat := (List.range (mcn G)).filter (fun m => odd G m && decide (pt G m = p))
noncomputable def ol (G : Geo) (p i : Nat) : Nat := (OL G p).getD i 0
theorem OL_len (G : Geo) (p : Nat) : (OL G p).length = ocn G p := cnt_filter _ _
theorem ol_mem {G : Geo} {p i : Nat} (h : i < ocn G p) : ol G p i < mcn G ∧ odd G (ol G p i) = true ∧ pt G (ol G p i) = p := by
  have hm : ol G p i ∈ OL G p := by
    unfold ol
    rw [List.getD_eq_getElem?_getD, List.getElem?_eq_getElem (by rw [OL_len]; exact h)]
    exact List.getElem_mem _
  unfold OL at hm
  simpa using hm
noncomputable def oD (G : Geo) (p a b : Nat) : Int := mds G (ol G p a) (ol G p b)
/-- pairs of places in that row -/
noncomputable def IP (G : Geo) (p : Nat) : List (Nat × Nat) := if 14 < ocn G p then (List.range (ocn G p / 2)).map (fun i => (2 * i, 2 * i + 1)) else mat (oD G p) (ocn G p / 2) (List.range (ocn G p))
noncomputable def PL (G : Geo) (p : Nat) : List (Nat × Nat) := (IP G p).map (fun q => (ol G p q.1, ol G p q.2))
noncomputable def AP (G : Geo) : Nat → List (Nat × Nat)
  | 0 => []
  | p + 1 => AP G p ++ PL G p
noncomputable def PN (G : Geo) (p : Nat) : Nat := sm (fun q => ocn G q / 2) p
theorem mat_len {D : Nat → Nat → Int} : ∀ (k : Nat) (l : List Nat), l.Nodup → l.length = 2 * k → (mat D k l).length = k
  | 0, _, _, _ => rfl
  | k + 1, [], _, h => by simp at h
  | k + 1, [a], _, h => by simp at h; omega
  | k + 1, a :: b :: t, hn, h => by
    have hn2 := (List.nodup_cons.mp hn).2
    have hm : prt1 D k a (b :: t) ∈ b :: t := amin_mem _ _ (by simp)
    have hl := rem_len hn2 hm
    have ih := mat_len (D := D) k (rem (b :: t) (prt1 D k a (b :: t))) (rem_nodup hn2) (by simp at h hl ⊢; omega)
    show (mat D k _).length + 1 = k + 1
    rw [ih]
/-- whose members come from the row, in order -/
theorem mat_mem {D : Nat → Nat → Int} : ∀ (k : Nat) (l : List Nat) (q : Nat × Nat), l.length = 2 * k → l.Nodup → q ∈ mat D k l → q.1 ∈ l ∧ q.2 ∈ l
  | 0, _, q, _, _, h => by cases h
  | k + 1, [], q, h, _, _ => by simp at h
  | k + 1, [a], q, h, _, _ => by simp at h; omega
  | k + 1, a :: b :: t, q, h, hn, hq => by
    have hn2 := (List.nodup_cons.mp hn).2
    have hm : prt1 D k a (b :: t) ∈ b :: t := amin_mem _ _ (by simp)
    have hl := rem_len hn2 hm
    rcases List.mem_cons.mp hq with e | e
    · subst e; exact ⟨List.mem_cons_self, List.mem_cons_of_mem _ hm⟩
    · obtain ⟨h1, h2⟩ := mat_mem (D := D) k _ q (by simp at h hl ⊢; omega) (rem_nodup hn2) e
      exact ⟨List.mem_cons_of_mem _ (rem_mem.mp h1).1, List.mem_cons_of_mem _ (rem_mem.mp h2).1⟩
theorem IP_len (G : Geo) (p : Nat) : (IP G p).length = ocn G p / 2 := by
  unfold IP
  split
  · simp
  · exact mat_len _ _ List.nodup_range (by have := ocn_even G p; simp; omega)
theorem IP_lt {G : Geo} {p : Nat} {q : Nat × Nat} (h : q ∈ IP G p) : q.1 < ocn G p ∧ q.2 < ocn G p := by
  have he := ocn_even G p
  unfold IP at h
  split at h
  · simp at h
    obtain ⟨i, hi, rfl⟩ := h
    simp; omega
  · obtain ⟨h1, h2⟩ := mat_mem _ _ q (by simp; omega) List.nodup_range h
    exact ⟨List.mem_range.mp h1, List.mem_range.mp h2⟩
theorem PL_len (G : Geo) (p : Nat) : (PL G p).length = ocn G p / 2 := by unfold PL; rw [List.length_map, IP_len]
theorem AP_len (G : Geo) : ∀ p, (AP G p).length = PN G p
  | 0 => rfl
  | p + 1 => by show (AP G p ++ PL G p).length = PN G p + ocn G p / 2; rw [List.length_append, AP_len G p, PL_len]
theorem ocn_sum (G : Geo) : sm (ocn G) (pcn G) ≤ mcn G := by
  have key : ∀ k, k ≤ mcn G → sm (fun p => cnt (fun m => odd G m && decide (pt G m = p)) k) (pcn G) ≤ k := by
    intro k
    induction k with
    | zero => intro _; show sm (fun _ => 0) (pcn G) ≤ 0; rw [sm_0]; exact Nat.le_refl _
    | succ k ih =>
      intro hk
      have ih := ih (by omega)
      have hp : pt G k < pcn G := pt_lt (by omega)
      have e : sm (fun p => cnt (fun m => odd G m && decide (pt G m = p)) (k + 1)) (pcn G) = sm (fun p => cnt (fun m => odd G m && decide (pt G m = p)) k) (pcn G) + sm (fun p => if p = pt G k then (if odd G k = true then 1 else 0) else 0) (pcn G) := by
        rw [← sm_add]
        refine sm_ext (n := pcn G) (fun p _ => ?_) _ (Nat.le_refl _)
        rw [cnt_s]
        by_cases e : p = pt G k
        · subst e; simp
        · have : ¬ pt G k = p := fun q => e q.symm
          simp [e, this]
      rw [e, sm_one hp]
      split <;> omega
  exact key (mcn G) (Nat.le_refl _)
theorem PN_mono (G : Geo) {a b : Nat} (h : a ≤ b) : PN G a ≤ PN G b := by
  induction b with
  | zero => have : a = 0 := by omega
            subst this; exact Nat.le_refl _
  | succ b ih =>
    by_cases e : a = b + 1
    · subst e; exact Nat.le_refl _
    · have := ih (by omega)
      show _ ≤ PN G b + ocn G b / 2
      omega
theorem PN_le (G : Geo) {p : Nat} (h : p ≤ pcn G) : 2 * PN G p ≤ mcn G := by
  have h1 := PN_mono G h
  have h2 : ∀ k, 2 * PN G k ≤ sm (ocn G) k := by
    intro k
    induction k with
    | zero => exact Nat.le_refl _
    | succ k ih => show 2 * (PN G k + ocn G k / 2) ≤ sm (ocn G) k + ocn G k; omega
  have h3 := h2 (pcn G)
  have h4 := ocn_sum G
  omega
theorem mds_in {G : Geo} (h : okG G) (a b : Nat) : 0 ≤ mds G a b ∧ mds G a b ≤ 400 := ds_in h _ _
/-- the first of the greatest from a on, of k; -1 of none -/
def cutR (g : Nat → Int) (a : Nat) : Nat → Int
  | 0 => -1
  | k + 1 => if cutR g a k = -1 ∨ g (cutR g a k).toNat < g (a + k) then ((a + k : Nat) : Int) else cutR g a k
theorem cutR_in (g : Nat → Int) (a : Nat) : ∀ k, (k = 0 ∧ cutR g a k = -1) ∨ (0 < k ∧ (a : Int) ≤ cutR g a k ∧ cutR g a k < ((a + k : Nat) : Int))
  | 0 => Or.inl ⟨rfl, rfl⟩
  | k + 1 => by
    right
    refine ⟨by omega, ?_⟩
    unfold cutR
    rcases cutR_in g a k with ⟨h1, h2⟩ | ⟨h1, h2, h3⟩
    · rw [if_pos (Or.inl h2)]; omega
    · split <;> omega
theorem cutR_ext {g g' : Nat → Int} {a : Nat} : ∀ (k : Nat), (∀ i, a ≤ i → i < a + k → g i = g' i) → cutR g a k = cutR g' a k
  | 0, _ => rfl
  | k + 1, h => by
    have ih := cutR_ext k (fun i h1 h2 => h i h1 (by omega))
    have hi := cutR_in g' a k
    unfold cutR
    rw [ih]
    by_cases e : cutR g' a k = -1
    · rw [if_pos (Or.inl e), if_pos (Or.inl e)]
    · rw [h (a + k) (by omega) (by omega), h (cutR g' a k).toNat (by omega) (by omega)]
