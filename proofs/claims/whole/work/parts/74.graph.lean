/-! the graph of a part: its strokes, and its pairs but the cut -/
noncomputable def eA (G : Geo) (e : Nat) : Nat := if e < 24 then mt G (2 * e) else (apr G (e - 24)).1
noncomputable def eB (G : Geo) (e : Nat) : Nat := if e < 24 then mt G (2 * e + 1) else (apr G (e - 24)).2
noncomputable def eX (G : Geo) (p e : Nat) : Bool := if e < 24 then decide (e < G.1) && decide (pt G (mt G (2 * e)) = p) else decide (PN G p ≤ e - 24) && decide (e - 24 < PN G (p + 1)) && !decide (((e - 24 : Nat) : Int) = cutI G p)
noncomputable def gP (G : Geo) (p : Nat) : Gr := (eX G p, eA G, eB G)
noncomputable def stG (G : Geo) (p : Nat) : Nat := if cutI G p = -1 then fm G p else (apr G (cutI G p).toNat).1
noncomputable def enG (G : Geo) (p : Nat) : Nat := if cutI G p = -1 then fm G p else (apr G (cutI G p).toNat).2
def noG : Nat → Bool := fun _ => false
theorem PN_24 {G : Geo} (h : G.1 ≤ 24) {p : Nat} (hp : p ≤ pcn G) : PN G p ≤ 24 := by
  have h1 := PN_le G hp
  have h2 := mcn_le G
  omega
theorem sm_split (f : Nat → Nat) (a : Nat) : ∀ b, sm f (a + b) = sm f a + sm (fun i => f (a + i)) b
  | 0 => rfl
  | b + 1 => by
    show sm f (a + b) + f (a + b) = sm f a + (sm (fun i => f (a + i)) b + f (a + b))
    rw [sm_split f a b]; omega
/-- the ends that meet at x, stroke by stroke -/
theorem ecn_sm (G : Geo) (x : Nat) : ecn G x = sm (fun s => (if mt G (2 * s) = x then 1 else 0) + (if mt G (2 * s + 1) = x then 1 else 0)) G.1 := by
  unfold ecn
  have key : ∀ k, cnt (fun e => decide (mt G e = x)) (2 * k) = sm (fun s => (if mt G (2 * s) = x then 1 else 0) + (if mt G (2 * s + 1) = x then 1 else 0)) k := by
    intro k
    induction k with
    | zero => rfl
    | succ k ih =>
      show cnt (fun e => decide (mt G e = x)) (2 * k) + (if decide (mt G (2 * k) = x) = true then 1 else 0) + (if decide (mt G (2 * k + 1) = x) = true then 1 else 0) = sm _ k + _
      rw [ih]
      simp only [decide_eq_true_eq]
      omega
  exact key G.1
theorem deg_st {G : Geo} (hn : G.1 ≤ 24) (p x : Nat) : sm (fun e => if (eX G p e && !noG e) = true then (if eA G e = x then 1 else 0) + (if eB G e = x then 1 else 0) else 0) 24 = if x < mcn G ∧ pt G x = p then ecn G x else 0 := by
  have h1 : sm (fun e => if (eX G p e && !noG e) = true then (if eA G e = x then 1 else 0) + (if eB G e = x then 1 else 0) else 0) 24 = sm (fun e => if (eX G p e && !noG e) = true then (if eA G e = x then 1 else 0) + (if eB G e = x then 1 else 0) else 0) G.1 := by
    rw [show 24 = G.1 + (24 - G.1) by omega, sm_split]
    rw [sm_zero (n := 24 - G.1) (fun i hi => ?_)]
    · rfl
    · have : eX G p (G.1 + i) = false := by unfold eX; rw [if_pos (by omega)]; simp; intro h; omega
      rw [this]; simp
  rw [h1]
  by_cases hx : x < mcn G ∧ pt G x = p
  · rw [if_pos hx, ecn_sm]
    refine sm_ext (n := G.1) (fun s hs => ?_) G.1 (Nat.le_refl _)
    have eAs : eA G s = mt G (2 * s) := by unfold eA; rw [if_pos (by omega)]
    have eBs : eB G s = mt G (2 * s + 1) := by unfold eB; rw [if_pos (by omega)]
    have hk := pt_kr hs
    rw [eAs, eBs]
    by_cases q : pt G (mt G (2 * s)) = p
    · rw [if_pos]
      unfold eX noG; rw [if_pos (by omega)]; simp [q, hs]
    · rw [if_neg (by unfold eX noG; rw [if_pos (by omega)]; simp [q])]
      have a1 : mt G (2 * s) ≠ x := fun z => q (by rw [z]; exact hx.2)
      have a2 : mt G (2 * s + 1) ≠ x := fun z => q (by rw [hk, z]; exact hx.2)
      rw [if_neg a1, if_neg a2]
  · rw [if_neg hx]
    refine sm_zero (fun s hs => ?_)
    have eAs : eA G s = mt G (2 * s) := by unfold eA; rw [if_pos (by omega)]
    have eBs : eB G s = mt G (2 * s + 1) := by unfold eB; rw [if_pos (by omega)]
    have hk := pt_kr hs
    by_cases q : pt G (mt G (2 * s)) = p
    · have a1 : mt G (2 * s) ≠ x := fun z => hx ⟨by rw [← z]; exact mt_lt (by omega), by rw [← z]; exact q⟩
      have a2 : mt G (2 * s + 1) ≠ x := fun z => hx ⟨by rw [← z]; exact mt_lt (by omega), by rw [← z, ← hk]; exact q⟩
      rw [eAs, eBs, if_neg a1, if_neg a2]; simp
    · rw [if_neg (by unfold eX noG; rw [if_pos (by omega)]; simp [q])]
theorem deg_hp {G : Geo} (hn : G.1 ≤ 24) {p : Nat} (hp : p < pcn G) (x : Nat) : sm (fun i => if (eX G p (24 + i) && !noG (24 + i)) = true then (if eA G (24 + i) = x then 1 else 0) + (if eB G (24 + i) = x then 1 else 0) else 0) 24 + (if cutI G p = -1 then 0 else hit (apr G (cutI G p).toNat) x) = if x ∈ OL G p then 1 else 0 := by
  have h3 : PN G (p + 1) = PN G p + ocn G p / 2 := rfl
  have h24 := PN_24 hn (show p + 1 ≤ pcn G by omega)
  have hci := cutI_in G p
  have eAi : ∀ i, eA G (24 + i) = (apr G i).1 := fun i => by unfold eA; rw [if_neg (by omega), show 24 + i - 24 = i by omega]
  have eBi : ∀ i, eB G (24 + i) = (apr G i).2 := fun i => by unfold eB; rw [if_neg (by omega), show 24 + i - 24 = i by omega]
  have eXi : ∀ i, (eX G p (24 + i) && !noG (24 + i)) = (decide (PN G p ≤ i) && decide (i < PN G (p + 1)) && !decide ((i : Int) = cutI G p)) := fun i => by
    unfold eX noG; rw [if_neg (by omega), show 24 + i - 24 = i by omega]; simp
  have e1 : sm (fun i => if (eX G p (24 + i) && !noG (24 + i)) = true then (if eA G (24 + i) = x then 1 else 0) + (if eB G (24 + i) = x then 1 else 0) else 0) 24 = sm (fun i => if (decide (PN G p ≤ i) && decide (i < PN G (p + 1)) && !decide ((i : Int) = cutI G p)) = true then hit (apr G i) x else 0) 24 := by
    refine sm_ext (n := 24) (fun i _ => ?_) 24 (Nat.le_refl _)
    rw [eXi, eAi, eBi]; rfl
  have e2 : sm (fun i => if (decide (PN G p ≤ i) && decide (i < PN G (p + 1)) && !decide ((i : Int) = cutI G p)) = true then hit (apr G i) x else 0) 24 = sm (fun t => if ((PN G p + t : Nat) : Int) = cutI G p then 0 else hit ((PL G p).getD t (0, 0)) x) (ocn G p / 2) := by
    rw [show 24 = PN G p + (ocn G p / 2 + (24 - PN G (p + 1))) by omega, sm_split, sm_split, sm_zero (n := PN G p) (fun i hi => ?_), sm_zero (n := 24 - PN G (p + 1)) (fun i hi => ?_)]
    · rw [Nat.zero_add, Nat.add_zero]
      refine sm_ext (n := ocn G p / 2) (fun t ht => ?_) _ (Nat.le_refl _)
      rw [apr_get hp ht]
      by_cases q : ((PN G p + t : Nat) : Int) = cutI G p
      · rw [if_pos q, if_neg (by simp [q])]
      · rw [if_neg q, if_pos]
        simp [q]; omega
    · rw [if_neg]; simp; omega
    · rw [if_neg]; simp; omega
  have e3 : sm (fun t => if ((PN G p + t : Nat) : Int) = cutI G p then 0 else hit ((PL G p).getD t (0, 0)) x) (ocn G p / 2) + (if cutI G p = -1 then 0 else hit (apr G (cutI G p).toNat) x) = sm (fun t => hit ((PL G p).getD t (0, 0)) x) (ocn G p / 2) := by
    by_cases q : cutI G p = -1
    · rw [if_pos q, Nat.add_zero]
      refine sm_ext (n := ocn G p / 2) (fun t ht => ?_) _ (Nat.le_refl _)
      rw [if_neg (by omega)]
    · rw [if_neg q]
      have hin : 0 < ocn G p / 2 ∧ (PN G p : Int) ≤ cutI G p ∧ cutI G p < (PN G (p + 1) : Int) := hci.resolve_left (fun z => q z.2)
      obtain ⟨t, ht⟩ : ∃ t : Nat, cutI G p = ((PN G p + t : Nat) : Int) := ⟨(cutI G p - PN G p).toNat, by omega⟩
      have htl : t < ocn G p / 2 := by omega
      rw [ht, tn_cast, apr_get hp htl, ← sm_one (n := ocn G p / 2) (k := t) (v := hit ((PL G p).getD t (0, 0)) x) htl, ← sm_add]
      refine sm_ext (n := ocn G p / 2) (fun u hu => ?_) _ (Nat.le_refl _)
      by_cases z : u = t
      · subst z; rw [if_pos rfl, if_pos rfl]; omega
      · rw [if_neg (by omega), if_neg z]; omega
  rw [e1, e2, e3, ← PL_len, sm_list, PL_cov]
theorem deg_eq {G : Geo} (hn : G.1 ≤ 24) {p : Nat} (hp : p < pcn G) (x : Nat) : deg (gP G p) noG x + (if cutI G p = -1 then 0 else hit (apr G (cutI G p).toNat) x) = (if x < mcn G ∧ pt G x = p then ecn G x else 0) + if x ∈ OL G p then 1 else 0 := by
  have h1 := deg_st hn p x
  have h2 := deg_hp hn hp x
  have h3 : deg (gP G p) noG x = sm (fun e => if (eX G p e && !noG e) = true then (if eA G e = x then 1 else 0) + (if eB G e = x then 1 else 0) else 0) 24 + sm (fun i => if (eX G p (24 + i) && !noG (24 + i)) = true then (if eA G (24 + i) = x then 1 else 0) + (if eB G (24 + i) = x then 1 else 0) else 0) 24 := by
    unfold deg gP
    rw [show 48 = 24 + 24 from rfl, sm_split]
  rw [h3, h1]
  omega
/-- at the start all meetings are even, but the cut's -/
theorem par_ok {G : Geo} (hn : G.1 ≤ 24) {p : Nat} (hp : p < pcn G) : (enG G p = stG G p ∧ ∀ x, deg (gP G p) noG x % 2 = 0) ∨ (stG G p ≠ enG G p ∧ ∀ x, deg (gP G p) noG x % 2 = if x = stG G p ∨ x = enG G p then 1 else 0) := by
  have key : ∀ x, ((if x < mcn G ∧ pt G x = p then ecn G x else 0) + if x ∈ OL G p then 1 else 0) % 2 = 0 := by
    intro x
    by_cases a : x < mcn G ∧ pt G x = p
    · rw [if_pos a]
      by_cases b : odd G x = true
      · rw [if_pos (OL_mem.mpr ⟨a.1, b, a.2⟩)]
        unfold odd at b; simp at b; omega
      · rw [if_neg (fun z => b (OL_mem.mp z).2.1)]
        unfold odd at b; simp at b; omega
    · rw [if_neg a, if_neg (fun z => a ⟨(OL_mem.mp z).1, (OL_mem.mp z).2.2⟩)]
  by_cases q : cutI G p = -1
  · left
    refine ⟨by unfold enG stG; rw [if_pos q, if_pos q], fun x => ?_⟩
    have := deg_eq hn hp x
    rw [if_pos q] at this
    have := key x
    omega
  · right
    have hin : 0 < ocn G p / 2 ∧ (PN G p : Int) ≤ cutI G p ∧ cutI G p < (PN G (p + 1) : Int) := (cutI_in G p).resolve_left (fun z => q z.2)
    have hne := apr_ne (G := G) (i := (cutI G p).toNat) hp (by omega) (by omega)
    have e1 : stG G p = (apr G (cutI G p).toNat).1 := by unfold stG; rw [if_neg q]
    have e2 : enG G p = (apr G (cutI G p).toNat).2 := by unfold enG; rw [if_neg q]
    rw [e1, e2]
    refine ⟨hne, fun x => ?_⟩
    have h1 := deg_eq hn hp x
    have h2 := key x
    rw [if_neg q] at h1
    unfold hit at h1
    by_cases a : x = (apr G (cutI G p).toNat).1
    · have b : ¬ (apr G (cutI G p).toNat).2 = x := fun z => hne (by rw [z, a])
      rw [if_pos a.symm, if_neg b] at h1
      rw [if_pos (Or.inl a)]; omega
    · by_cases b : x = (apr G (cutI G p).toNat).2
      · rw [if_neg (fun z => a z.symm), if_pos b.symm] at h1
        rw [if_pos (Or.inr b)]; omega
      · rw [if_neg (fun z => a z.symm), if_neg (fun z => b z.symm)] at h1
        rw [if_neg (fun z => z.elim a b)]; omega
