/-! a drawing's geometry: strokes, join, x and y of the ends; meetings and parts -/
abbrev Geo : Type := Nat × Int × (Nat → Int) × (Nat → Int)
def ds (G : Geo) (a b : Nat) : Int := iab (G.2.2.1 a - G.2.2.1 b) + iab (G.2.2.2 a - G.2.2.2 b)
def nr (G : Geo) (a b : Nat) : Prop := ds G a b ≤ G.2.1
noncomputable def hdE (G : Geo) : Nat → Nat := labF (nr G) (2 * G.1)
/-- the meeting of an end; how many; a meeting's first end -/
noncomputable def mt (G : Geo) (e : Nat) : Nat := rk (hdE G) (hdE G e)
noncomputable def mcn (G : Geo) : Nat := rk (hdE G) (2 * G.1)
noncomputable def fe (G : Geo) (m : Nat) : Nat := nth (hdE G) (2 * G.1) m
def kr (G : Geo) (a b : Nat) : Prop := ∃ s, s < G.1 ∧ a = mt G (2 * s) ∧ b = mt G (2 * s + 1)
noncomputable def hdM (G : Geo) : Nat → Nat := labF (kr G) (mcn G)
/-- the part of a meeting; how many; a part's first meeting -/
noncomputable def pt (G : Geo) (m : Nat) : Nat := rk (hdM G) (hdM G m)
noncomputable def pcn (G : Geo) : Nat := rk (hdM G) (mcn G)
noncomputable def fm (G : Geo) (p : Nat) : Nat := nth (hdM G) (mcn G) p
/-- how many k below n are such -/
def cnt (P : Nat → Bool) : Nat → Nat
  | 0 => 0
  | k + 1 => cnt P k + (if P k = true then 1 else 0)
/-- how many ends are in a meeting -/
noncomputable def ecn (G : Geo) (m : Nat) : Nat := cnt (fun e => decide (mt G e = m)) (2 * G.1)
noncomputable def odd (G : Geo) (m : Nat) : Bool := decide (ecn G m % 2 = 1)
noncomputable def ocn (G : Geo) (p : Nat) : Nat := cnt (fun m => odd G m && decide (pt G m = p)) (mcn G)
noncomputable def mds (G : Geo) (a b : Nat) : Int := ds G (fe G a) (fe G b)
theorem cnt_le (P : Nat → Bool) : ∀ k, cnt P k ≤ k
  | 0 => Nat.le_refl 0
  | k + 1 => by
    have := cnt_le P k
    unfold cnt
    split <;> omega
theorem cnt_ext {P R : Nat → Bool} {n : Nat} (h : ∀ i, i < n → P i = R i) : ∀ k, k ≤ n → cnt P k = cnt R k := by
  intro k hk
  induction k with
  | zero => rfl
  | succ k ih => show cnt P k + _ = cnt R k + _; rw [ih (by omega), h k (by omega)]
theorem ds_sym (G : Geo) (a b : Nat) : ds G a b = ds G b a := by
  unfold ds
  rw [show G.2.2.1 a - G.2.2.1 b = -(G.2.2.1 b - G.2.2.1 a) by omega, show G.2.2.2 a - G.2.2.2 b = -(G.2.2.2 b - G.2.2.2 a) by omega, iab_n, iab_n]
/-- the bounds that a drawing keeps -/
def okG (G : Geo) : Prop := G.1 ≤ 24 ∧ 0 ≤ G.2.1 ∧ G.2.1 ≤ 50 ∧ (∀ e, 0 ≤ G.2.2.1 e ∧ G.2.2.1 e ≤ 200) ∧ ∀ e, 0 ≤ G.2.2.2 e ∧ G.2.2.2 e ≤ 200
theorem ds_in {G : Geo} (h : okG G) (a b : Nat) : 0 ≤ ds G a b ∧ ds G a b ≤ 400 := by
  obtain ⟨-, -, -, hx, hy⟩ := h
  have h1 := hx a
  have h2 := hx b
  have h3 := hy a
  have h4 := hy b
  have h5 := iab_le (a := G.2.2.1 a - G.2.2.1 b) (m := 200) (by omega) (by omega)
  have h6 := iab_le (a := G.2.2.2 a - G.2.2.2 b) (m := 200) (by omega) (by omega)
  have h7 := iab_pos (G.2.2.1 a - G.2.2.1 b)
  have h8 := iab_pos (G.2.2.2 a - G.2.2.2 b)
  unfold ds
  omega
theorem hdE_ok (G : Geo) : LAB (nr G) (2 * G.1) (hdE G) := labF_ok _ _
theorem hdM_ok (G : Geo) : LAB (kr G) (mcn G) (hdM G) := labF_ok _ _
theorem mcn_le (G : Geo) : mcn G ≤ 2 * G.1 := rk_le _ _
theorem pcn_le (G : Geo) : pcn G ≤ mcn G := rk_le _ _
theorem mt_lt {G : Geo} {e : Nat} (h : e < 2 * G.1) : mt G e < mcn G := by
  have h1 := (hdE_ok G).1 e h
  exact rk_lt (by omega) ((hdE_ok G).idem h)
theorem fe_ok {G : Geo} {m : Nat} (h : m < mcn G) : fe G m < 2 * G.1 ∧ mt G (fe G m) = m := by
  obtain ⟨h1, h2, h3⟩ := nth_ok h
  refine ⟨h1, ?_⟩
  show rk (hdE G) (hdE G (fe G m)) = m
  rw [show hdE G (fe G m) = fe G m from h2]
  exact h3
theorem fe_mt {G : Geo} {e : Nat} (h : e < 2 * G.1) : fe G (mt G e) = hdE G e := by
  have h1 := (hdE_ok G).1 e h
  exact nth_rk (by omega) ((hdE_ok G).idem h)
theorem fe_le {G : Geo} {e : Nat} (h : e < 2 * G.1) : fe G (mt G e) ≤ e := by rw [fe_mt h]; exact (hdE_ok G).1 e h
theorem pt_lt {G : Geo} {m : Nat} (h : m < mcn G) : pt G m < pcn G := by
  have h1 := (hdM_ok G).1 m h
  exact rk_lt (by omega) ((hdM_ok G).idem h)
theorem fm_ok {G : Geo} {p : Nat} (h : p < pcn G) : fm G p < mcn G ∧ pt G (fm G p) = p := by
  obtain ⟨h1, h2, h3⟩ := nth_ok h
  refine ⟨h1, ?_⟩
  show rk (hdM G) (hdM G (fm G p)) = p
  rw [show hdM G (fm G p) = fm G p from h2]
  exact h3
theorem fm_le {G : Geo} {m : Nat} (h : m < mcn G) : fm G (pt G m) ≤ m := by
  have h1 := (hdM_ok G).1 m h
  have h2 : fm G (pt G m) = hdM G m := nth_rk (by omega) ((hdM_ok G).idem h)
  omega
/-- a stroke's ends are in meetings of one part -/
theorem pt_kr {G : Geo} {s : Nat} (h : s < G.1) : pt G (mt G (2 * s)) = pt G (mt G (2 * s + 1)) := by
  have := (hdM_ok G).2.1 (mt G (2 * s)) (mt G (2 * s + 1)) (mt_lt (by omega)) (mt_lt (by omega)) ⟨s, h, rfl, rfl⟩
  unfold pt
  rw [this]
