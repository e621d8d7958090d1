/-! plans: trails in a row, each forwards or backwards; how far the pen goes while it is up -/
def okTr (G : Geo) (T : Tr) : Prop := okT T ∧ (∀ q ∈ flat T, stp G q) ∧ (flat T).length ≤ G.1 ∧ ((flat T).map (fun q => q.2)).Nodup
theorem okTr_TR {G : Geo} (hn : G.1 ≤ 24) : okTr G (TR G (pcn G)) := by
  obtain ⟨h1, h2⟩ := flat_len (G := G) hn (Nat.le_refl (pcn G))
  refine ⟨okT_TR G _, fun q hq => ?_, h1, h2⟩
  rw [flat_TR] at hq
  obtain ⟨q1, q2⟩ := List.mem_filter.mp hq
  obtain ⟨p, p1, p2⟩ := WA_mem q1
  obtain ⟨k, hk, rfl⟩ : ∃ k, k < (wkW G p).length ∧ (wkW G p).getD k (0, 0) = q := by
    obtain ⟨k, hk, e⟩ := List.getElem_of_mem p2
    exact ⟨k, hk, by rw [List.getD_eq_getElem?_getD, List.getElem?_eq_getElem hk]; exact e⟩
  exact wk_stp hn (by omega) hk q2
def tg (T : Tr) (t : Nat) : Nat × List (Nat × Nat) := T.getD t (0, [])
/-- a trail's first meeting, its last -/
def tB (T : Tr) (t : Nat) : Nat := ((tg T t).2.getD 0 (0, 0)).1
noncomputable def tE (G : Geo) (T : Tr) (t : Nat) : Nat := oG G ((tg T t).2.getD ((tg T t).2.length - 1) (0, 0))
theorem tg_spl {T : Tr} {t : Nat} (h : t < T.length) : ∃ T0 T1, T = T0 ++ tg T t :: T1 ∧ T0.length = t := by
  refine ⟨T.take t, T.drop (t + 1), ?_, by simp; omega⟩
  have : tg T t = T[t] := by unfold tg; rw [List.getD_eq_getElem?_getD, List.getElem?_eq_getElem h]; rfl
  rw [this, ← List.drop_eq_getElem_cons h, List.take_append_drop]
theorem tg_mem {T : Tr} {t : Nat} (h : t < T.length) : tg T t ∈ T := gd_mem h
theorem tg_flat {T : Tr} {t k : Nat} (h : t < T.length) (hk : k < (tg T t).2.length) : (tg T t).2.getD k (0, 0) ∈ flat T := by
  unfold flat
  exact List.mem_flatten.mpr ⟨(tg T t).2, List.mem_map.mpr ⟨tg T t, tg_mem h, rfl⟩, gd_mem hk⟩
theorem okTr.pos {G : Geo} {T : Tr} {t : Nat} (h : okTr G T) (ht : t < T.length) : 0 < (tg T t).2.length := List.length_pos_iff.mpr (h.1 _ (tg_mem ht))
theorem stp_lt {G : Geo} {q : Nat × Nat} (hn : G.1 ≤ 24) (h : stp G q) : q.1 < mcn G ∧ oG G q < mcn G := by
  obtain ⟨h1, h2⟩ := h
  have a := mt_lt (G := G) (e := 2 * q.2) (by omega)
  have b := mt_lt (G := G) (e := 2 * q.2 + 1) (by omega)
  constructor
  · rcases h2 with e | e <;> (rw [← e]; assumption)
  · unfold oG eA eB
    simp only [if_pos (show q.2 < 24 by omega)]
    split <;> assumption
theorem okTr.be {G : Geo} {T : Tr} {t : Nat} (hn : G.1 ≤ 24) (h : okTr G T) (ht : t < T.length) : tB T t < mcn G ∧ tE G T t < mcn G := by
  have hp := h.pos ht
  exact ⟨(stp_lt hn (h.2.1 _ (tg_flat ht (k := 0) hp))).1, (stp_lt hn (h.2.1 _ (tg_flat ht (k := (tg T t).2.length - 1) (by omega)))).2⟩
theorem okTr.le {G : Geo} {T : Tr} (h : okTr G T) : T.length ≤ G.1 := Nat.le_trans (okT_len h.1) h.2.2.1
/-- a spot: -1 is home -/
noncomputable def sX (G : Geo) (H : Int × Int) (a : Int) : Int := if a = -1 then H.1 else G.2.2.1 (fe G a.toNat)
noncomputable def sY (G : Geo) (H : Int × Int) (a : Int) : Int := if a = -1 then H.2 else G.2.2.2 (fe G a.toNat)
noncomputable def apd (G : Geo) (H : Int × Int) (a b : Int) : Int := iab (sX G H a - sX G H b) + iab (sY G H a - sY G H b)
theorem apd_sym (G : Geo) (H : Int × Int) (a b : Int) : apd G H a b = apd G H b a := by
  unfold apd
  rw [show sX G H a - sX G H b = -(sX G H b - sX G H a) by omega, iab_n, show sY G H a - sY G H b = -(sY G H b - sY G H a) by omega, iab_n]
def okH (H : Int × Int) : Prop := 0 ≤ H.1 ∧ H.1 ≤ 200 ∧ 0 ≤ H.2 ∧ H.2 ≤ 200
theorem sXY_in {G : Geo} {H : Int × Int} (h : okG G) (hH : okH H) (a : Int) : (0 ≤ sX G H a ∧ sX G H a ≤ 200) ∧ (0 ≤ sY G H a ∧ sY G H a ≤ 200) := by
  unfold sX sY
  split
  · exact ⟨⟨hH.1, hH.2.1⟩, hH.2.2⟩
  · exact ⟨h.2.2.2.1 _, h.2.2.2.2 _⟩
theorem apd_in {G : Geo} {H : Int × Int} (h : okG G) (hH : okH H) (a b : Int) : 0 ≤ apd G H a b ∧ apd G H a b ≤ 400 := by
  obtain ⟨a1, a2⟩ := sXY_in h hH a
  obtain ⟨b1, b2⟩ := sXY_in h hH b
  have h5 := iab_le (a := sX G H a - sX G H b) (m := 200) (by omega) (by omega)
  have h6 := iab_le (a := sY G H a - sY G H b) (m := 200) (by omega) (by omega)
  have h7 := iab_pos (sX G H a - sX G H b)
  have h8 := iab_pos (sY G H a - sY G H b)
  unfold apd; omega
theorem apd_mds (G : Geo) (H : Int × Int) (a b : Nat) : apd G H a b = mds G a b := by
  unfold apd sX sY mds ds
  rw [if_neg (by omega), if_neg (by omega), if_neg (by omega), if_neg (by omega)]
  rfl
/-- by a code: twice the trail's number, and 1 if it goes backwards -/
noncomputable def bgC (G : Geo) (T : Tr) (c : Nat) : Nat := if c % 2 = 1 then tE G T (c / 2) else tB T (c / 2)
noncomputable def enC (G : Geo) (T : Tr) (c : Nat) : Nat := if c % 2 = 1 then tB T (c / 2) else tE G T (c / 2)
def xr (c : Nat) : Nat := if c % 2 = 0 then c + 1 else c - 1
theorem xr_xr (c : Nat) : xr (xr c) = c := by unfold xr; split <;> split <;> omega
theorem xr_h (c : Nat) : xr c / 2 = c / 2 := by unfold xr; split <;> omega
theorem xr_m (c : Nat) : xr c % 2 = 1 - c % 2 := by unfold xr; split <;> omega
theorem bgC_x (G : Geo) (T : Tr) (c : Nat) : bgC G T (xr c) = enC G T c := by
  unfold bgC enC; rw [xr_h, xr_m]
  by_cases h : c % 2 = 1
  · rw [if_neg (by omega), if_pos h]
  · rw [if_pos (by omega), if_neg h]
theorem enC_x (G : Geo) (T : Tr) (c : Nat) : enC G T (xr c) = bgC G T c := by rw [← bgC_x, xr_xr]
noncomputable def spA (G : Geo) (T : Tr) (f : Nat → Nat) (i : Nat) : Int := if i = 0 then -1 else (enC G T (f (i - 1)) : Int)
noncomputable def spB (G : Geo) (T : Tr) (N : Nat) (f : Nat → Nat) (i : Nat) : Int := if i < N then (bgC G T (f i) : Int) else -1
noncomputable def lg (G : Geo) (H : Int × Int) (T : Tr) (N : Nat) (f : Nat → Nat) (i : Nat) : Int := apd G H (spA G T f i) (spB G T N f i)
/-- a sum of integers -/
def si (f : Nat → Int) : Nat → Int
  | 0 => 0
  | n + 1 => si f n + f n
noncomputable def trv (G : Geo) (H : Int × Int) (T : Tr) (N : Nat) (f : Nat → Nat) : Int := if N = 0 then 0 else si (lg G H T N f) (N + 1)
theorem si_ext {f g : Nat → Int} {n : Nat} (h : ∀ i, i < n → f i = g i) : ∀ k, k ≤ n → si f k = si g k := by
  intro k
  induction k with
  | zero => intro _; rfl
  | succ k ih => intro hk; show si f k + f k = si g k + g k; rw [ih (by omega), h k (by omega)]
theorem si_in {f : Nat → Int} {b : Int} (h : ∀ i, 0 ≤ f i ∧ f i ≤ b) : ∀ n : Nat, 0 ≤ si f n ∧ si f n ≤ b * n
  | 0 => ⟨Int.le_refl _, by show (0 : Int) ≤ b * 0; omega⟩
  | n + 1 => by
    have ih := si_in h n
    have := h n
    show 0 ≤ si f n + f n ∧ si f n + f n ≤ b * ((n : Int) + 1)
    rw [Int.mul_add]; omega
theorem si_add (f : Nat → Int) (a : Nat) : ∀ b, si f (a + b) = si f a + si (fun i => f (a + i)) b
  | 0 => by show si f a = si f a + 0; omega
  | b + 1 => by
    show si f (a + b) + f (a + b) = si f a + (si (fun i => f (a + i)) b + f (a + b))
    rw [si_add f a b]; omega
theorem si_rev (f : Nat → Int) : ∀ n, si (fun i => f (n - 1 - i)) n = si f n
  | 0 => rfl
  | n + 1 => by
    have h1 := si_add (fun i => f (n + 1 - 1 - i)) 1 n
    rw [show 1 + n = n + 1 by omega] at h1
    rw [h1]
    have h2 : si (fun i => (fun i => f (n + 1 - 1 - i)) (1 + i)) n = si (fun i => f (n - 1 - i)) n := si_ext (n := n) (fun i hi => by
      show f (n + 1 - 1 - (1 + i)) = f (n - 1 - i)
      rw [show n + 1 - 1 - (1 + i) = n - 1 - i by omega]) n (Nat.le_refl _)
    rw [h2, si_rev f n]
    show 0 + f (n + 1 - 1 - 0) + si f n = si f n + f n
    rw [show n + 1 - 1 - 0 = n by omega]; omega
/-- a run in the other order, each turned -/
def rvs (i k : Nat) (f : Nat → Nat) : Nat → Nat := fun j => if i ≤ j ∧ j ≤ k then xr (f (i + k - j)) else f j
theorem rvs_rvs {i k : Nat} (f : Nat → Nat) : rvs i k (rvs i k f) = f := by
  funext j
  unfold rvs
  by_cases h : i ≤ j ∧ j ≤ k
  · rw [if_pos h, if_pos (by omega), xr_xr, show i + k - (i + k - j) = j by omega]
  · rw [if_neg h, if_neg h]
noncomputable def chg (G : Geo) (H : Int × Int) (T : Tr) (N : Nat) (f : Nat → Nat) (i k : Nat) : Int := (apd G H (spA G T f i) (enC G T (f k)) + apd G H (bgC G T (f i)) (spB G T N f (k + 1))) - (apd G H (spA G T f i) (bgC G T (f i)) + apd G H (enC G T (f k)) (spB G T N f (k + 1)))
theorem chg_ok {G : Geo} {H : Int × Int} {T : Tr} {N : Nat} {f : Nat → Nat} {i k : Nat} (hik : i ≤ k) (hk : k < N) : trv G H T N (rvs i k f) - trv G H T N f = chg G H T N f i k := by
  unfold trv
  rw [if_neg (by omega), if_neg (by omega)]
  -- legs ahead of the run
  have l1 : ∀ j, j < i → lg G H T N (rvs i k f) j = lg G H T N f j := fun j hj => by
    unfold lg spA spB
    rw [show rvs i k f j = f j from if_neg (by omega), show rvs i k f (j - 1) = f (j - 1) from if_neg (by omega)]
  have l3 : ∀ j, k + 1 < j → lg G H T N (rvs i k f) j = lg G H T N f j := fun j hj => by
    unfold lg spA spB
    rw [show rvs i k f j = f j from if_neg (by omega), show rvs i k f (j - 1) = f (j - 1) from if_neg (by omega)]
  have li : lg G H T N (rvs i k f) i = apd G H (spA G T f i) (enC G T (f k)) := by
    unfold lg
    have a : spA G T (rvs i k f) i = spA G T f i := by
      unfold spA
      by_cases z : i = 0
      · rw [if_pos z, if_pos z]
      · rw [if_neg z, if_neg z]; unfold rvs; rw [if_neg (by omega)]
    have b : spB G T N (rvs i k f) i = (enC G T (f k) : Int) := by
      unfold spB rvs
      rw [if_pos (by omega), if_pos (by omega), bgC_x, show i + k - i = k by omega]
    rw [a, b]
  have lk : lg G H T N (rvs i k f) (k + 1) = apd G H (bgC G T (f i)) (spB G T N f (k + 1)) := by
    unfold lg
    have a : spA G T (rvs i k f) (k + 1) = (bgC G T (f i) : Int) := by
      unfold spA rvs
      rw [if_neg (by omega), if_pos (by omega), enC_x, show i + k - (k + 1 - 1) = i by omega]
    have b : spB G T N (rvs i k f) (k + 1) = spB G T N f (k + 1) := by
      unfold spB rvs
      rw [if_neg (show ¬ (i ≤ k + 1 ∧ k + 1 ≤ k) by omega)]
    rw [a, b]
  have li0 : lg G H T N f i = apd G H (spA G T f i) (bgC G T (f i)) := by
    unfold lg
    have b : spB G T N f i = (bgC G T (f i) : Int) := by unfold spB; rw [if_pos (by omega)]
    rw [b]
  have lk0 : lg G H T N f (k + 1) = apd G H (enC G T (f k)) (spB G T N f (k + 1)) := by
    unfold lg
    have a : spA G T f (k + 1) = (enC G T (f k) : Int) := by unfold spA; rw [if_neg (by omega), show k + 1 - 1 = k by omega]
    rw [a]
  have l2 : ∀ j, i < j → j ≤ k → lg G H T N (rvs i k f) j = lg G H T N f (i + k + 1 - j) := fun j h1 h2 => by
    unfold lg spA spB rvs
    rw [if_neg (by omega), if_pos (by omega), if_pos (by omega), if_pos (by omega), if_neg (by omega), if_pos (by omega), bgC_x, enC_x, apd_sym, show i + k - (j - 1) = i + k + 1 - j by omega, show i + k + 1 - j - 1 = i + k - j by omega]
  -- all in parts: i, 1, k - i, 1, N - k - 1
  have sp : ∀ g : Nat → Int, si g (N + 1) = si g i + g i + si (fun x => g (i + 1 + x)) (k - i) + g (k + 1) + si (fun x => g (k + 2 + x)) (N - 1 - k) := fun g => by
    have e1 := si_add g (k + 2) (N - 1 - k)
    rw [show k + 2 + (N - 1 - k) = N + 1 by omega] at e1
    have e2 : si g (k + 2) = si g (k + 1) + g (k + 1) := rfl
    have e3 := si_add g (i + 1) (k - i)
    rw [show i + 1 + (k - i) = k + 1 by omega] at e3
    have e4 : si g (i + 1) = si g i + g i := rfl
    omega
  rw [sp (lg G H T N (rvs i k f)), sp (lg G H T N f)]
  have s1 : si (lg G H T N (rvs i k f)) i = si (lg G H T N f) i := si_ext l1 i (Nat.le_refl _)
  have s3 : si (fun x => lg G H T N (rvs i k f) (k + 2 + x)) (N - 1 - k) = si (fun x => lg G H T N f (k + 2 + x)) (N - 1 - k) := si_ext (n := N - 1 - k) (fun x _ => l3 _ (by omega)) _ (Nat.le_refl _)
  have s2 : si (fun x => lg G H T N (rvs i k f) (i + 1 + x)) (k - i) = si (fun x => lg G H T N f (i + 1 + x)) (k - i) := by
    rw [← si_rev (fun x => lg G H T N f (i + 1 + x)) (k - i)]
    refine si_ext (n := k - i) (fun x hx => ?_) _ (Nat.le_refl _)
    rw [l2 _ (by omega) (by omega), show i + k + 1 - (i + 1 + x) = i + 1 + (k - i - 1 - x) by omega]
  rw [s1, s2, s3, li, lk, li0, lk0]
  unfold chg
  omega
