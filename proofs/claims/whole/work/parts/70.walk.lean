/-! walks over a graph: edges below 48, each there or not, with two ends; rings spliced -/
def fst1 (P : Nat → Bool) : Nat → Option Nat
  | 0 => none
  | k + 1 => match fst1 P k with
    | some x => some x
    | none => if P k = true then some k else none
theorem fst1_some {P : Nat → Bool} {x : Nat} : ∀ {n : Nat}, fst1 P n = some x → x < n ∧ P x = true ∧ ∀ y, y < x → P y = false
  | 0, h => by cases h
  | n + 1, h => by
    unfold fst1 at h
    split at h
    · rename_i z hz
      cases h
      obtain ⟨h1, h2⟩ := fst1_some hz
      exact ⟨by omega, h2⟩
    · rename_i hz
      split at h
      · rename_i hp
        cases h
        refine ⟨by omega, hp, fun y hy => ?_⟩
        have key : ∀ k, fst1 P k = none → ∀ y, y < k → P y = false := by
          intro k
          induction k with
          | zero => intro _ y hy; omega
          | succ k ih =>
            intro hk y hy
            unfold fst1 at hk
            split at hk
            · cases hk
            · rename_i hk2
              split at hk
              · cases hk
              · rename_i hk3
                by_cases e : y = k
                · subst e; simpa using hk3
                · exact ih hk2 y (by omega)
        exact key _ hz y hy
      · cases h
theorem fst1_none {P : Nat → Bool} : ∀ {n : Nat}, fst1 P n = none → ∀ y, y < n → P y = false
  | 0, _, y, hy => by omega
  | n + 1, h, y, hy => by
    unfold fst1 at h
    split at h
    · cases h
    · rename_i hz
      split at h
      · cases h
      · rename_i hp
        by_cases e : y = n
        · subst e; simpa using hp
        · exact fst1_none hz y (by omega)
theorem fst1_is {P : Nat → Bool} {x n : Nat} (h1 : x < n) (h2 : P x = true) (h3 : ∀ y, y < x → P y = false) : fst1 P n = some x := by
  cases h : fst1 P n with
  | none => rw [fst1_none h x h1] at h2; cases h2
  | some y =>
    obtain ⟨k1, k2, k3⟩ := fst1_some h
    rcases Nat.lt_trichotomy x y with z | z | z
    · rw [k3 x z] at h2; cases h2
    · rw [z]
    · rw [h3 y z] at k2; cases k2
theorem fst1_no {P : Nat → Bool} {n : Nat} (h : ∀ y, y < n → P y = false) : fst1 P n = none := by
  cases h' : fst1 P n with
  | none => rfl
  | some y =>
    obtain ⟨k1, k2, -⟩ := fst1_some h'
    rw [h y k1] at k2; cases k2
theorem fst1_ext {P R : Nat → Bool} {n : Nat} (h : ∀ y, y < n → P y = R y) : fst1 P n = fst1 R n := by
  cases h' : fst1 R n with
  | none => exact fst1_no (fun y hy => by rw [h y hy]; exact fst1_none h' y hy)
  | some x =>
    obtain ⟨k1, k2, k3⟩ := fst1_some h'
    exact fst1_is k1 (by rw [h x k1]; exact k2) (fun y hy => by rw [h y (by omega)]; exact k3 y hy)
/-- a graph: which edges are there, their ends -/
abbrev Gr : Type := (Nat → Bool) × (Nat → Nat) × (Nat → Nat)
def inc (g : Gr) (m e : Nat) : Bool := decide (g.2.1 e = m) || decide (g.2.2 e = m)
def nx (g : Gr) (go : Nat → Bool) (m : Nat) : Option Nat := fst1 (fun e => g.1 e && !go e && inc g m e) 48
def oe (g : Gr) (e m : Nat) : Nat := if g.2.1 e = m then g.2.2 e else g.2.1 e
def mk1 (go : Nat → Bool) (e : Nat) : Nat → Bool := fun x => go x || decide (x = e)
def isRing (g : Gr) : (Nat → Bool) → Nat → List Nat → (Nat → Bool) → Nat → Prop
  | go, m, [], go', m' => go' = go ∧ m' = m ∧ nx g go m = none
  | go, m, e :: l, go', m' => nx g go m = some e ∧ isRing g (mk1 go e) (oe g e m) l go' m'
/-- the meetings behind each step -/
def rsp (g : Gr) : Nat → List Nat → List Nat
  | _, [] => []
  | m, e :: l => oe g e m :: rsp g (oe g e m) l
theorem rsp_len (g : Gr) : ∀ (m : Nat) (l : List Nat), (rsp g m l).length = l.length
  | _, [] => rfl
  | m, e :: l => by show (rsp g _ l).length + 1 = l.length + 1; rw [rsp_len g]
/-- each step with the meeting from which it goes -/
def rfr (g : Gr) : Nat → List Nat → List (Nat × Nat)
  | _, [] => []
  | m, e :: l => (m, e) :: rfr g (oe g e m) l
theorem rfr_len (g : Gr) : ∀ (m : Nat) (l : List Nat), (rfr g m l).length = l.length
  | _, [] => rfl
  | m, e :: l => by show (rfr g _ l).length + 1 = l.length + 1; rw [rfr_len g]
def insW (W l : List (Nat × Nat)) (k : Nat) : List (Nat × Nat) := W.take k ++ l ++ W.drop k
def insS (sp r : List Nat) (k : Nat) : List Nat := sp.take (k + 1) ++ r ++ sp.drop (k + 1)
def isRun (g : Gr) : Nat → (Nat → Bool) → List (Nat × Nat) → List Nat → (Nat → Bool) → List (Nat × Nat) → List Nat → Prop
  | 0, go, W, sp, goF, WF, spF => (∀ k, k ≤ W.length → nx g go (sp.getD k 0) = none) ∧ goF = go ∧ WF = W ∧ spF = sp
  | r + 1, go, W, sp, goF, WF, spF => ∃ (k : Nat) (l : List Nat) (go' : Nat → Bool) (m' : Nat), k ≤ W.length ∧ (∀ j, j < k → nx g go (sp.getD j 0) = none) ∧ l ≠ [] ∧ isRing g go (sp.getD k 0) l go' m' ∧ isRun g r go' (insW W (rfr g (sp.getD k 0) l) k) (insS sp (rsp g (sp.getD k 0) l) k) goF WF spF
theorem isRing.uniq {g : Gr} : ∀ {l l2 : List Nat} {go go' go2 : Nat → Bool} {m m' m2 : Nat}, isRing g go m l go' m' → isRing g go m l2 go2 m2 → l = l2 ∧ go' = go2 ∧ m' = m2
  | [], [], go, go', go2, m, m', m2, h, k => ⟨rfl, h.1.trans k.1.symm, h.2.1.trans k.2.1.symm⟩
  | [], e :: l, go, go', go2, m, m', m2, h, k => by cases h.2.2.symm.trans k.1
  | e :: l, [], go, go', go2, m, m', m2, h, k => by cases k.2.2.symm.trans h.1
  | e :: l, e2 :: l2, go, go', go2, m, m', m2, h, k => by
    have e1 : e = e2 := Option.some.inj (h.1.symm.trans k.1)
    subst e1
    obtain ⟨a, b, c⟩ := isRing.uniq h.2 k.2
    exact ⟨by rw [a], b, c⟩
theorem isRing.nil_of {g : Gr} {go go' : Nat → Bool} {m m' : Nat} {l : List Nat} (h : isRing g go m l go' m') (hn : nx g go m = none) : l = [] := by
  cases l with
  | nil => rfl
  | cons e l => cases hn.symm.trans h.1
theorem isRing.some_of {g : Gr} {go go' : Nat → Bool} {m m' : Nat} {l : List Nat} (h : isRing g go m l go' m') (hn : l ≠ []) : nx g go m ≠ none := by
  cases l with
  | nil => exact absurd rfl hn
  | cons e l => rw [h.1]; simp
theorem isRun.uniq {g : Gr} : ∀ {r r2 : Nat} {go goF go2 : Nat → Bool} {W WF W2 : List (Nat × Nat)} {sp spF sp2 : List Nat}, isRun g r go W sp goF WF spF → isRun g r2 go W sp go2 W2 sp2 → goF = go2 ∧ WF = W2 ∧ spF = sp2
  | 0, 0, go, goF, go2, W, WF, W2, sp, spF, sp2, h, k => ⟨h.2.1.trans k.2.1.symm, h.2.2.1.trans k.2.2.1.symm, h.2.2.2.trans k.2.2.2.symm⟩
  | 0, r2 + 1, go, goF, go2, W, WF, W2, sp, spF, sp2, h, k => by
    obtain ⟨j, l, go', m', k1, k2, k3, k4, -⟩ := k
    exact absurd (h.1 j k1) (k4.some_of k3)
  | r + 1, 0, go, goF, go2, W, WF, W2, sp, spF, sp2, h, k => by
    obtain ⟨j, l, go', m', k1, k2, k3, k4, -⟩ := h
    exact absurd (k.1 j k1) (k4.some_of k3)
  | r + 1, r2 + 1, go, goF, go2, W, WF, W2, sp, spF, sp2, h, k => by
    obtain ⟨j, l, go', m', a1, a2, a3, a4, a5⟩ := h
    obtain ⟨i, l2, go'2, m'2, b1, b2, b3, b4, b5⟩ := k
    have e : j = i := by
      rcases Nat.lt_trichotomy j i with z | z | z
      · exact absurd (b2 j z) (a4.some_of a3)
      · exact z
      · exact absurd (a2 i z) (b4.some_of b3)
    subst e
    obtain ⟨rfl, rfl, rfl⟩ := a4.uniq b4
    exact isRun.uniq a5 b5
/-- edges that are there and aren't gone -/
def lft (g : Gr) (go : Nat → Bool) : Nat := cnt (fun e => g.1 e && !go e) 48
theorem cnt_lt {P R : Nat → Bool} {n x : Nat} (hx : x < n) (h1 : P x = false) (h2 : R x = true) (h3 : ∀ i, P i = true → R i = true) : cnt P n < cnt R n := by
  have hle : ∀ k, cnt P k ≤ cnt R k := by
    intro k
    induction k with
    | zero => exact Nat.le_refl _
    | succ k ih =>
      rw [cnt_s, cnt_s]
      cases h : P k
      · simp; omega
      · rw [h3 k h]; simp; omega
  induction n with
  | zero => omega
  | succ n ih =>
    rw [cnt_s, cnt_s]
    by_cases e : x = n
    · subst e
      have := hle x
      rw [h1, h2]; simp; omega
    · have := ih (by omega)
      cases h : P n
      · simp; omega
      · rw [h3 n h]; simp; omega
theorem nx_ok {g : Gr} {go : Nat → Bool} {m e : Nat} (h : nx g go m = some e) : e < 48 ∧ g.1 e = true ∧ go e = false ∧ (g.2.1 e = m ∨ g.2.2 e = m) := by
  obtain ⟨h1, h2, -⟩ := fst1_some h
  simp [inc] at h2
  exact ⟨h1, h2.1.1, h2.1.2, h2.2⟩
theorem lft_mk {g : Gr} {go : Nat → Bool} {m e : Nat} (h : nx g go m = some e) : lft g (mk1 go e) < lft g go := by
  obtain ⟨h1, h2, h3, -⟩ := nx_ok h
  refine cnt_lt (x := e) h1 ?_ ?_ ?_
  · simp [mk1]
  · simp [h2, h3]
  · intro i hi
    simp [mk1] at hi ⊢
    exact ⟨hi.1, hi.2.1⟩
theorem ring_has (g : Gr) : ∀ (k : Nat) (go : Nat → Bool) (m : Nat), lft g go < k → ∃ l go' m', isRing g go m l go' m'
  | 0, go, m, h => by omega
  | k + 1, go, m, h => by
    cases hn : nx g go m with
    | none => exact ⟨[], go, m, rfl, rfl, hn⟩
    | some e =>
      have := lft_mk hn
      obtain ⟨l, go', m', hr⟩ := ring_has g k (mk1 go e) (oe g e m) (by omega)
      exact ⟨e :: l, go', m', hn, hr⟩
theorem ring_lft {g : Gr} : ∀ {l : List Nat} {go go' : Nat → Bool} {m m' : Nat}, isRing g go m l go' m' → lft g go' + l.length ≤ lft g go
  | [], go, go', m, m', h => by rw [h.1]; simp
  | e :: l, go, go', m, m', h => by
    have h1 := lft_mk h.1
    have h2 := ring_lft h.2
    simp; omega
theorem run_has (g : Gr) : ∀ (k : Nat) (go : Nat → Bool) (W : List (Nat × Nat)) (sp : List Nat), lft g go < k → ∃ r goF WF spF, isRun g r go W sp goF WF spF
  | 0, go, W, sp, h => by omega
  | k + 1, go, W, sp, h => by
    by_cases hall : ∀ j, j ≤ W.length → nx g go (sp.getD j 0) = none
    · exact ⟨0, go, W, sp, hall, rfl, rfl, rfl⟩
    · obtain ⟨j, j1, j2⟩ := pk_least (fun j => j ≤ W.length ∧ nx g go (sp.getD j 0) ≠ none) (by
        apply Classical.byContradiction
        intro q
        exact hall (fun j hj => by
          cases h : nx g go (sp.getD j 0) with
          | none => rfl
          | some e => exact absurd ⟨j, hj, by rw [h]; simp⟩ q))
      obtain ⟨l, go', m', hr⟩ := ring_has g (lft g go + 1) go (sp.getD j 0) (by omega)
      have hl : l ≠ [] := fun z => by subst z; exact j1.2 hr.2.2
      have hpos : 0 < l.length := List.length_pos_iff.mpr hl
      have := ring_lft hr
      obtain ⟨r, goF, WF, spF, hrun⟩ := run_has g k go' (insW W (rfr g (sp.getD j 0) l) j) (insS sp (rsp g (sp.getD j 0) l) j) (by omega)
      refine ⟨r + 1, goF, WF, spF, j, l, go', m', j1.1, fun i hi => ?_, hl, hr, hrun⟩
      cases h : nx g go (sp.getD i 0) with
      | none => rfl
      | some e => exact absurd ⟨by omega, by rw [h]; simp⟩ (j2 i hi)
