/-! degrees, rings that close, walks that go over all -/
def deg (g : Gr) (go : Nat → Bool) (m : Nat) : Nat := sm (fun e => if (g.1 e && !go e) = true then (if g.2.1 e = m then 1 else 0) + (if g.2.2 e = m then 1 else 0) else 0) 48
def bN (b : Bool) : Nat := if b = true then 1 else 0
theorem deg_mk {g : Gr} {go : Nat → Bool} {m e : Nat} (h : nx g go m = some e) (x : Nat) : deg g go x = deg g (mk1 go e) x + (if x = m then 1 else 0) + (if x = oe g e m then 1 else 0) := by
  obtain ⟨h1, h2, h3, h4⟩ := nx_ok h
  have key : deg g go x = deg g (mk1 go e) x + sm (fun i => if i = e then (if g.2.1 e = x then 1 else 0) + (if g.2.2 e = x then 1 else 0) else 0) 48 := by
    unfold deg
    rw [← sm_add]
    refine sm_ext (n := 48) (fun i _ => ?_) 48 (Nat.le_refl _)
    by_cases q : i = e
    · subst q; simp [h2, h3, mk1]
    · simp [mk1, q]
  rw [key, sm_one h1]
  unfold oe
  by_cases q : g.2.1 e = m
  · rw [if_pos q, q]
    by_cases a : x = m <;> by_cases b : x = g.2.2 e <;> simp [a, b, eq_comm] <;> (try omega)
  · rw [if_neg q]
    have q2 := h4.resolve_left q
    rw [q2]
    by_cases a : x = m <;> by_cases b : x = g.2.1 e <;> simp [a, b, eq_comm] <;> (try omega)
theorem sm_zero {f : Nat → Nat} : ∀ {n : Nat}, (∀ i, i < n → f i = 0) → sm f n = 0
  | 0, _ => rfl
  | n + 1, h => by show sm f n + f n = 0; rw [sm_zero (fun i hi => h i (by omega)), h n (by omega)]
theorem sm_pos {f : Nat → Nat} {k : Nat} : ∀ {n : Nat}, k < n → 0 < f k → 0 < sm f n
  | 0, h, _ => by omega
  | n + 1, h, h2 => by
    show 0 < sm f n + f n
    by_cases e : k = n
    · subst e; omega
    · have := sm_pos (n := n) (by omega) h2; omega
theorem deg_none {g : Gr} {go : Nat → Bool} {m : Nat} (h : nx g go m = none) : deg g go m = 0 := by
  refine sm_zero (fun e he => ?_)
  have := fst1_none h e he
  by_cases a : (g.1 e && !go e) = true
  · rw [if_pos a]
    rw [a] at this
    simp [inc] at this
    simp [this]
  · rw [if_neg a]
theorem deg_none' {g : Gr} {go : Nat → Bool} {m e : Nat} (h : nx g go m = none) (he : e < 48) (hx : g.1 e = true) (hi : g.2.1 e = m ∨ g.2.2 e = m) : go e = true := by
  have := fst1_none h e he
  simp [hx, inc] at this
  cases q : go e
  · have := this q
    omega
  · rfl
theorem ring_end {g : Gr} : ∀ {l : List Nat} {go go' : Nat → Bool} {m m' : Nat}, isRing g go m l go' m' → nx g go' m' = none
  | [], go, go', m, m', h => by rw [h.1, h.2.1]; exact h.2.2
  | e :: l, go, go', m, m', h => ring_end h.2
theorem ring_par {g : Gr} : ∀ {l : List Nat} {go go' : Nat → Bool} {m m' : Nat}, isRing g go m l go' m' → ∀ x, (deg g go x + (if x = m then 1 else 0) + (if x = m' then 1 else 0)) % 2 = deg g go' x % 2
  | [], go, go', m, m', h, x => by
    rw [h.1, h.2.1]
    split <;> omega
  | e :: l, go, go', m, m', h, x => by
    have h1 := deg_mk h.1 x
    have h2 := ring_par h.2 x
    rw [h1]
    split <;> omega
theorem ring_close {g : Gr} {l : List Nat} {go go' : Nat → Bool} {m m' : Nat} (h : isRing g go m l go' m') (he : ∀ x, deg g go x % 2 = 0) : m' = m ∧ ∀ x, deg g go' x % 2 = 0 := by
  have h1 := ring_end h
  have h2 := deg_none h1
  have h3 := ring_par h m'
  have e : m' = m := by
    by_cases q : m' = m
    · exact q
    · rw [if_neg q, if_pos rfl, h2] at h3
      have := he m'; omega
  refine ⟨e, fun x => ?_⟩
  have h4 := ring_par h x
  have := he x
  rw [e] at h4
  split at h4 <;> omega
theorem ring_open {g : Gr} {l : List Nat} {go go' : Nat → Bool} {a b m' : Nat} (h : isRing g go a l go' m') (hab : a ≠ b) (he : ∀ x, deg g go x % 2 = if x = a ∨ x = b then 1 else 0) : m' = b ∧ ∀ x, deg g go' x % 2 = 0 := by
  have h1 := ring_end h
  have h2 := deg_none h1
  have h3 := ring_par h m'
  rw [h2] at h3
  have hm := he m'
  have e : m' = b := by
    by_cases q : m' = a
    · subst q; simp at h3 hm; omega
    · by_cases q2 : m' = b
      · exact q2
      · simp [q, q2] at h3 hm; omega
  refine ⟨e, fun x => ?_⟩
  have h4 := ring_par h x
  have hx := he x
  rw [e] at h4
  by_cases q : x = a
  · subst q; simp [hab] at h4 hx; omega
  · by_cases q2 : x = b
    · subst q2; simp [q] at h4 hx; omega
    · simp [q, q2] at h4 hx; omega
/-- rows and spots that fit: each step goes from its spot, to the next spot -/
def chn (g : Gr) (W : List (Nat × Nat)) (sp : List Nat) : Prop := sp.length = W.length + 1 ∧ ∀ k, k < W.length → (W.getD k (0, 0)).1 = sp.getD k 0 ∧ sp.getD (k + 1) 0 = oe g (W.getD k (0, 0)).2 (sp.getD k 0) ∧ (g.2.1 (W.getD k (0, 0)).2 = sp.getD k 0 ∨ g.2.2 (W.getD k (0, 0)).2 = sp.getD k 0)
theorem gd_l {α : Type} {d : α} {l k : List α} {i : Nat} (h : i < l.length) : (l ++ k).getD i d = l.getD i d := gd_app h
theorem gd_r {α : Type} {d : α} {l k : List α} {i : Nat} (h : l.length ≤ i) : (l ++ k).getD i d = k.getD (i - l.length) d := by
  simp only [List.getD_eq_getElem?_getD]
  rw [List.getElem?_append_right h]
theorem gd_take {α : Type} {d : α} {l : List α} {n i : Nat} (h : i < n) : (l.take n).getD i d = l.getD i d := by
  simp only [List.getD_eq_getElem?_getD]
  rw [List.getElem?_take, if_pos h]
theorem gd_drop {α : Type} {d : α} {l : List α} {n i : Nat} : (l.drop n).getD i d = l.getD (n + i) d := by
  simp only [List.getD_eq_getElem?_getD]
  rw [List.getElem?_drop]
theorem insW_len {W l : List (Nat × Nat)} {k : Nat} (h : k ≤ W.length) : (insW W l k).length = W.length + l.length := by
  unfold insW; simp; omega
theorem insS_len {sp r : List Nat} {k : Nat} (h : k + 1 ≤ sp.length) : (insS sp r k).length = sp.length + r.length := by
  unfold insS; simp; omega
theorem insW_get {W l : List (Nat × Nat)} {k i : Nat} (h : k ≤ W.length) : (insW W l k).getD i (0, 0) = if i < k then W.getD i (0, 0) else if i < k + l.length then l.getD (i - k) (0, 0) else W.getD (i - l.length) (0, 0) := by
  unfold insW
  have ht : (W.take k).length = k := by rw [List.length_take]; omega
  by_cases a : i < k
  · rw [if_pos a, List.append_assoc, gd_l (by omega), gd_take a]
  · rw [if_neg a]
    by_cases b : i < k + l.length
    · rw [if_pos b, gd_l (by rw [List.length_append]; omega), gd_r (by omega), ht]
    · rw [if_neg b, gd_r (by rw [List.length_append]; omega), gd_drop, List.length_append, ht]
      congr 1; omega
theorem insS_get {sp r : List Nat} {k i : Nat} (h : k + 1 ≤ sp.length) : (insS sp r k).getD i 0 = if i < k + 1 then sp.getD i 0 else if i < k + 1 + r.length then r.getD (i - (k + 1)) 0 else sp.getD (i - r.length) 0 := by
  unfold insS
  have ht : (sp.take (k + 1)).length = k + 1 := by rw [List.length_take]; omega
  by_cases a : i < k + 1
  · rw [if_pos a, List.append_assoc, gd_l (by omega), gd_take a]
  · rw [if_neg a]
    by_cases b : i < k + 1 + r.length
    · rw [if_pos b, gd_l (by rw [List.length_append]; omega), gd_r (by omega), ht]
    · rw [if_neg b, gd_r (by rw [List.length_append]; omega), gd_drop, List.length_append, ht]
      congr 1; omega
/-- a ring's own steps and spots fit; its last spot is its end -/
theorem ring_chn {g : Gr} : ∀ {l : List Nat} {go go' : Nat → Bool} {m m' : Nat}, isRing g go m l go' m' → chn g (rfr g m l) (m :: rsp g m l) ∧ (m :: rsp g m l).getD l.length 0 = m'
  | [], go, go', m, m', h => ⟨⟨rfl, fun k hk => absurd hk (by simp [rfr])⟩, by rw [h.2.1]; rfl⟩
  | e :: l, go, go', m, m', h => by
    obtain ⟨⟨h1, h2⟩, h3⟩ := ring_chn h.2
    refine ⟨⟨by simp [rsp_len, rfr_len], fun k hk => ?_⟩, ?_⟩
    · cases k with
      | zero => exact ⟨rfl, rfl, (nx_ok h.1).2.2.2⟩
      | succ k => exact h2 k (by simp [rfr] at hk; exact hk)
    · exact h3
theorem chn_ins {g : Gr} {l : List Nat} {go go' : Nat → Bool} {m' k : Nat} {W : List (Nat × Nat)} {sp : List Nat} (hc : chn g W sp) (hk : k ≤ W.length) (hr : isRing g go (sp.getD k 0) l go' m') (hcl : k < W.length → m' = sp.getD k 0) : chn g (insW W (rfr g (sp.getD k 0) l) k) (insS sp (rsp g (sp.getD k 0) l) k) := by
  obtain ⟨⟨-, r2⟩, r3⟩ := ring_chn hr
  obtain ⟨c1, c2⟩ := hc
  have hk1 : k + 1 ≤ sp.length := by omega
  have lf := rfr_len g (sp.getD k 0) l
  have ls := rsp_len g (sp.getD k 0) l
  refine ⟨by rw [insS_len hk1, insW_len hk, lf, ls, c1]; omega, fun i hi => ?_⟩
  rw [insW_len hk, lf] at hi
  rw [insW_get hk, insS_get hk1, insS_get hk1, lf, ls]
  by_cases a : i < k
  · rw [if_pos a, if_pos (by omega), if_pos (by omega)]; exact c2 i (by omega)
  · rw [if_neg a]
    by_cases b : i < k + l.length
    · rw [if_pos b]
      have r := r2 (i - k) (by omega)
      have e1 : (sp.getD k 0 :: rsp g (sp.getD k 0) l).getD (i - k) 0 = if i < k + 1 then sp.getD i 0 else if i < k + 1 + l.length then (rsp g (sp.getD k 0) l).getD (i - (k + 1)) 0 else sp.getD (i - l.length) 0 := by
        by_cases q : i < k + 1
        · rw [if_pos q, show i - k = 0 by omega, show i = k by omega]; rfl
        · rw [if_neg q, if_pos (by omega), show i - k = (i - (k + 1)) + 1 by omega]; rfl
      have e2 : (sp.getD k 0 :: rsp g (sp.getD k 0) l).getD (i - k + 1) 0 = if i + 1 < k + 1 then sp.getD (i + 1) 0 else if i + 1 < k + 1 + l.length then (rsp g (sp.getD k 0) l).getD (i + 1 - (k + 1)) 0 else sp.getD (i + 1 - l.length) 0 := by
        rw [if_neg (by omega), if_pos (by omega), show i + 1 - (k + 1) = i - k by omega]; rfl
      rw [e1, e2] at r
      exact r
    · rw [if_neg b]
      have c := c2 (i - l.length) (by omega)
      have e1 : (if i < k + 1 then sp.getD i 0 else if i < k + 1 + l.length then (rsp g (sp.getD k 0) l).getD (i - (k + 1)) 0 else sp.getD (i - l.length) 0) = sp.getD (i - l.length) 0 := by
        by_cases q : i < k + 1
        · rw [if_pos q]
          have : l.length = 0 := by omega
          rw [this]; rfl
        · rw [if_neg q]
          by_cases q2 : i < k + 1 + l.length
          · rw [if_pos q2]
            have e3 : (rsp g (sp.getD k 0) l).getD (i - (k + 1)) 0 = m' := by
              rw [← r3]
              obtain ⟨z, hz⟩ : ∃ z, l.length = z + 1 := ⟨l.length - 1, by omega⟩
              rw [hz]
              show _ = (rsp g (sp.getD k 0) l).getD z 0
              congr 1; omega
            rw [e3, hcl (by omega), show i - l.length = k by omega]
          · rw [if_neg q2]
      rw [e1, if_neg (by omega), if_neg (by omega), show i + 1 - l.length = i - l.length + 1 by omega]
      exact c
