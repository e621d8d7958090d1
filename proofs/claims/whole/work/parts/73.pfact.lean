/-! each odd meeting is in just one pair -/
def hit (q : Nat × Nat) (x : Nat) : Nat := (if q.1 = x then 1 else 0) + (if q.2 = x then 1 else 0)
def cv2 (P : List (Nat × Nat)) (x : Nat) : Nat := (P.map (fun q => hit q x)).sum
theorem cv2_cons (q : Nat × Nat) (P : List (Nat × Nat)) (x : Nat) : cv2 (q :: P) x = hit q x + cv2 P x := by unfold cv2; simp
theorem cv2_app (P R : List (Nat × Nat)) (x : Nat) : cv2 (P ++ R) x = cv2 P x + cv2 R x := by unfold cv2; simp
theorem mat_cov {D : Nat → Nat → Int} : ∀ (k : Nat) (l : List Nat) (x : Nat), l.Nodup → l.length = 2 * k → cv2 (mat D k l) x = if x ∈ l then 1 else 0
  | 0, l, x, _, h => by
    have : l = [] := List.length_eq_zero_iff.mp (by omega)
    subst this; rfl
  | k + 1, [], x, _, h => by simp at h
  | k + 1, [a], x, _, h => by simp at h; omega
  | k + 1, a :: b :: t, x, hn, h => by
    have hn1 := (List.nodup_cons.mp hn).1
    have hn2 := (List.nodup_cons.mp hn).2
    have hm : prt1 D k a (b :: t) ∈ b :: t := amin_mem _ _ (by simp)
    have hl := rem_len hn2 hm
    have ih := mat_cov (D := D) k (rem (b :: t) (prt1 D k a (b :: t))) x (rem_nodup hn2) (by simp at h hl ⊢; omega)
    show cv2 ((a, prt1 D k a (b :: t)) :: mat D k _) x = _
    rw [cv2_cons, ih]
    generalize prt1 D k a (b :: t) = c at hm
    generalize b :: t = u at *
    unfold hit
    by_cases e1 : a = x
    · subst e1
      have : ¬ c = a := fun q => hn1 (q ▸ hm)
      rw [if_pos rfl, if_neg this, if_neg (fun q => hn1 (rem_mem.mp q).1), if_pos List.mem_cons_self]
    · rw [if_neg e1]
      by_cases e2 : c = x
      · subst e2
        rw [if_pos rfl, if_neg (fun q => (rem_mem.mp q).2 rfl), if_pos (List.mem_cons_of_mem _ hm)]
      · rw [if_neg e2]
        by_cases e3 : x ∈ u
        · rw [if_pos (rem_mem.mpr ⟨e3, fun q => e2 q.symm⟩), if_pos (List.mem_cons_of_mem _ e3)]
        · rw [if_neg (fun q => e3 (rem_mem.mp q).1), if_neg (fun q => (List.mem_cons.mp q).elim (fun z => e1 z.symm) e3)]
theorem nbr_cov (x : Nat) : ∀ h, cv2 ((List.range h).map (fun i => (2 * i, 2 * i + 1))) x = if x < 2 * h then 1 else 0
  | 0 => rfl
  | h + 1 => by
    rw [List.range_succ, List.map_append, cv2_app, nbr_cov x h]
    show _ + cv2 [(2 * h, 2 * h + 1)] x = _
    rw [cv2_cons]
    show _ + (hit _ x + 0) = _
    unfold hit
    by_cases e : x < 2 * h
    · rw [if_pos e, if_neg (by simp; omega), if_neg (by simp; omega), if_pos (by omega)]
    · rw [if_neg e]
      by_cases e1 : 2 * h = x
      · rw [if_pos e1, if_neg (by simp; omega), if_pos (by omega)]
      · by_cases e2 : 2 * h + 1 = x
        · rw [if_neg e1, if_pos e2, if_pos (by omega)]
        · rw [if_neg e1, if_neg e2, if_neg (by omega)]
theorem IP_cov (G : Geo) (p j : Nat) : cv2 (IP G p) j = if j < ocn G p then 1 else 0 := by
  have he := ocn_even G p
  unfold IP
  split
  · rw [nbr_cov]
    by_cases q : j < ocn G p
    · rw [if_pos (by omega), if_pos q]
    · rw [if_neg (by omega), if_neg q]
  · rw [mat_cov _ _ _ List.nodup_range (by simp; omega)]
    simp
theorem OL_nodup (G : Geo) (p : Nat) : (OL G p).Nodup := List.nodup_range.filter _
theorem OL_mem {G : Geo} {p x : Nat} : x ∈ OL G p ↔ x < mcn G ∧ odd G x = true ∧ pt G x = p := by
  unfold OL
  simp
theorem ol_get {G : Geo} {p i : Nat} (h : i < ocn G p) : (OL G p)[i]? = some (ol G p i) := by
  unfold ol
  rw [List.getD_eq_getElem?_getD, List.getElem?_eq_getElem (by rw [OL_len]; exact h)]
  rfl
theorem ol_inj {G : Geo} {p i j : Nat} (hi : i < ocn G p) (hj : j < ocn G p) (h : ol G p i = ol G p j) : i = j := by
  have h1 := ol_get hi
  have h2 := ol_get hj
  rw [h] at h1
  exact (List.getElem?_inj (by rw [OL_len]; exact hi) (OL_nodup G p)).mp (h1.trans h2.symm)
theorem ol_of {G : Geo} {p x : Nat} (h : x ∈ OL G p) : ∃ j, j < ocn G p ∧ ol G p j = x := by
  obtain ⟨j, hj⟩ := List.getElem?_of_mem h
  have hl : j < ocn G p := by rw [← OL_len]; exact (List.getElem?_eq_some_iff.mp hj).1
  refine ⟨j, hl, ?_⟩
  have := ol_get hl
  rw [hj] at this
  exact (Option.some.inj this).symm
theorem cv2_ext {P R : List (Nat × Nat)} {x y : Nat} {f : Nat × Nat → Nat × Nat} (h : R = P.map f) (hh : ∀ q ∈ P, hit (f q) x = hit q y) : cv2 R x = cv2 P y := by
  subst h
  induction P with
  | nil => rfl
  | cons q P ih =>
    rw [List.map_cons, cv2_cons, cv2_cons, hh q List.mem_cons_self, ih (fun r hr => hh r (List.mem_cons_of_mem _ hr))]
theorem cv2_zero {P : List (Nat × Nat)} {x : Nat} (h : ∀ q ∈ P, hit q x = 0) : cv2 P x = 0 := by
  induction P with
  | nil => rfl
  | cons q P ih => rw [cv2_cons, h q List.mem_cons_self, ih (fun r hr => h r (List.mem_cons_of_mem _ hr))]
theorem PL_cov (G : Geo) (p x : Nat) : cv2 (PL G p) x = if x ∈ OL G p then 1 else 0 := by
  by_cases e : x ∈ OL G p
  · rw [if_pos e]
    obtain ⟨j, hj, rfl⟩ := ol_of e
    have h1 : cv2 (PL G p) (ol G p j) = cv2 (IP G p) j := cv2_ext (f := fun q => (ol G p q.1, ol G p q.2)) rfl (fun q hq => by
      obtain ⟨l1, l2⟩ := IP_lt hq
      unfold hit
      have a1 : ol G p q.1 = ol G p j ↔ q.1 = j := ⟨fun z => ol_inj l1 hj z, fun z => by rw [z]⟩
      have a2 : ol G p q.2 = ol G p j ↔ q.2 = j := ⟨fun z => ol_inj l2 hj z, fun z => by rw [z]⟩
      simp only [a1, a2])
    rw [h1, IP_cov, if_pos hj]
  · rw [if_neg e]
    refine cv2_zero (fun q hq => ?_)
    unfold PL at hq
    obtain ⟨r, hr, rfl⟩ := List.mem_map.mp hq
    obtain ⟨l1, l2⟩ := IP_lt hr
    unfold hit
    rw [if_neg (fun z => e (by rw [← z]; exact OL_mem.mpr (ol_mem l1))), if_neg (fun z => e (by rw [← z]; exact OL_mem.mpr (ol_mem l2)))]
/-- a pair of a part: by its place among all -/
theorem apr_get {G : Geo} {p t : Nat} (hp : p < pcn G) (ht : t < ocn G p / 2) : apr G (PN G p + t) = (PL G p).getD t (0, 0) := by
  unfold apr
  have h1 : PN G (p + 1) = PN G p + ocn G p / 2 := rfl
  rw [AP_pre G (show p + 1 ≤ pcn G by omega) (by omega)]
  show (AP G p ++ PL G p).getD _ _ = _
  rw [gd_r (by rw [AP_len]; omega), AP_len]
  congr 1; omega
theorem apr_ok {G : Geo} {p i : Nat} (hp : p < pcn G) (h1 : PN G p ≤ i) (h2 : i < PN G (p + 1)) : (apr G i).1 ∈ OL G p ∧ (apr G i).2 ∈ OL G p := by
  have h3 : PN G (p + 1) = PN G p + ocn G p / 2 := rfl
  obtain ⟨t, rfl⟩ : ∃ t, i = PN G p + t := ⟨i - PN G p, by omega⟩
  rw [apr_get hp (by omega)]
  have hm : (PL G p).getD t (0, 0) ∈ PL G p := by
    rw [List.getD_eq_getElem?_getD, List.getElem?_eq_getElem (by rw [PL_len]; omega)]
    exact List.getElem_mem _
  unfold PL at hm
  obtain ⟨r, hr, e⟩ := List.mem_map.mp hm
  obtain ⟨l1, l2⟩ := IP_lt hr
  have e' : (PL G p).getD t (0, 0) = (ol G p r.1, ol G p r.2) := e.symm
  rw [e']
  exact ⟨OL_mem.mpr (ol_mem l1), OL_mem.mpr (ol_mem l2)⟩
/-- every pair is in a part -/
theorem PN_in {G : Geo} {i : Nat} : ∀ (k : Nat), i < PN G k → ∃ p, p < k ∧ PN G p ≤ i ∧ i < PN G (p + 1)
  | 0, h => by exact absurd h (Nat.not_lt_zero _)
  | k + 1, h => by
    by_cases e : i < PN G k
    · obtain ⟨p, h1, h2⟩ := PN_in k e
      exact ⟨p, by omega, h2⟩
    · exact ⟨k, by omega, by omega, h⟩
/-- sums over a row by places -/
theorem sm_list {P : List (Nat × Nat)} {x : Nat} : sm (fun t => hit (P.getD t (0, 0)) x) P.length = cv2 P x := by
  have key : ∀ k, k ≤ P.length → sm (fun t => hit (P.getD t (0, 0)) x) k = cv2 (P.take k) x := by
    intro k
    induction k with
    | zero => intro _; rfl
    | succ k ih =>
      intro hk
      show sm _ k + hit (P.getD k (0, 0)) x = _
      rw [ih (by omega), List.take_succ, cv2_app]
      congr 1
      rw [List.getElem?_eq_getElem (show k < P.length by omega), List.getD_eq_getElem?_getD, List.getElem?_eq_getElem (show k < P.length by omega)]
      show hit _ x = cv2 [_] x
      rw [cv2_cons]
      rfl
  rw [key P.length (Nat.le_refl _), List.take_length]
/-- the two of a pair differ -/
theorem apr_ne {G : Geo} {p i : Nat} (hp : p < pcn G) (h1 : PN G p ≤ i) (h2 : i < PN G (p + 1)) : (apr G i).1 ≠ (apr G i).2 := by
  intro e
  have h3 : PN G (p + 1) = PN G p + ocn G p / 2 := rfl
  have hc := PL_cov G p (apr G i).1
  rw [if_pos (apr_ok hp h1 h2).1, ← sm_list, PL_len] at hc
  obtain ⟨t, rfl⟩ : ∃ t, i = PN G p + t := ⟨i - PN G p, by omega⟩
  have key : ∀ k, t < k → 2 ≤ sm (fun u => hit ((PL G p).getD u (0, 0)) (apr G (PN G p + t)).1) k := by
    intro k
    induction k with
    | zero => intro h; omega
    | succ k ih =>
      intro h
      show 2 ≤ sm _ k + hit ((PL G p).getD k (0, 0)) _
      by_cases q : t = k
      · subst q
        rw [← apr_get hp (by omega)]
        unfold hit
        rw [if_pos rfl, if_pos e.symm]; omega
      · have := ih (by omega); omega
  have := key (ocn G p / 2) (by omega)
  omega
