/-! where more ends meet there are never more trails -/
theorem sm_fib {F w : Nat → Nat} {k : Nat} : ∀ n, (∀ e, e < n → F e < k) → sm (fun m => sm (fun e => if F e = m then w e else 0) n) k = sm w n
  | 0, _ => sm_0 k
  | n + 1, h => by
    have ih := sm_fib (F := F) (w := w) (k := k) n (fun e he => h e (by omega))
    show _ = sm w n + w n
    rw [← ih, ← sm_one (n := k) (k := F n) (v := w n) (h n (by omega)), ← sm_add]
    refine sm_ext (n := k) (fun m hm => ?_) k (Nat.le_refl _)
    show sm (fun e => if F e = m then w e else 0) n + (if F n = m then w n else 0) = sm (fun e => if F e = m then w e else 0) n + (if m = F n then w n else 0)
    by_cases e : m = F n
    · rw [if_pos e, if_pos e.symm]
    · rw [if_neg e, if_neg (fun q => e q.symm)]
theorem smz_le {f g : Nat → Nat} {n : Nat} (h : ∀ i, i < n → f i ≤ g i) : ∀ k, k ≤ n → sm f k ≤ sm g k := by
  intro k hk
  induction k with
  | zero => exact Nat.le_refl _
  | succ k ih =>
    have h1 := ih (by omega)
    have h2 := h k (by omega)
    show sm f k + f k ≤ sm g k + g k
    omega
theorem sm_ev {f : Nat → Nat} : ∀ n, (∀ i, i < n → f i % 2 = 0) → sm f n % 2 = 0
  | 0, _ => rfl
  | n + 1, h => by
    have h1 := sm_ev (f := f) n (fun i hi => h i (by omega))
    have h2 := h n (by omega)
    show (sm f n + f n) % 2 = 0
    omega
theorem sm_ge {f : Nat → Nat} {i : Nat} : ∀ {n : Nat}, i < n → f i ≤ sm f n
  | 0, h => by omega
  | n + 1, h => by
    show f i ≤ sm f n + f n
    by_cases e : i = n
    · subst e; omega
    · have := sm_ge (f := f) (i := i) (n := n) (by omega)
      omega
/-- the meeting and the part of G' in which one of G lies -/
noncomputable def zph (G G' : Geo) (m : Nat) : Nat := mt G' (fe G m)
noncomputable def zps (G G' : Geo) (p : Nat) : Nat := pt G' (zph G G' (fm G p))
theorem zph_mt {G G' : Geo} (hn : G'.1 = G.1) (hr : ∀ a b, nr G a b → nr G' a b) {e : Nat} (he : e < 2 * G.1) : zph G G' (mt G e) = mt G' e := by
  unfold zph
  rw [fe_mt he]
  refine (hdE_ok G).2.2 (mt G') (fun a b ha hb h => ?_) e he
  have := (hdE_ok G').2.1 a b (by omega) (by omega) (hr a b h)
  unfold mt
  rw [this]
theorem zph_lt {G G' : Geo} (hn : G'.1 = G.1) {m : Nat} (hm : m < mcn G) : zph G G' m < mcn G' := by
  have := (fe_ok hm).1
  exact mt_lt (by omega)
theorem zps_lt {G G' : Geo} (hn : G'.1 = G.1) {p : Nat} (hp : p < pcn G) : zps G G' p < pcn G' := pt_lt (zph_lt hn (fm_ok hp).1)
theorem zps_pt {G G' : Geo} (hn : G'.1 = G.1) (hr : ∀ a b, nr G a b → nr G' a b) {m : Nat} (hm : m < mcn G) : zps G G' (pt G m) = pt G' (zph G G' m) := by
  unfold zps
  have h1 := (hdM_ok G).1 m hm
  have h2 : fm G (pt G m) = hdM G m := nth_rk (by omega) ((hdM_ok G).idem hm)
  rw [h2]
  refine (hdM_ok G).2.2 (fun x => pt G' (zph G G' x)) (fun a b ha hb h => ?_) m hm
  obtain ⟨s, hs, ea, eb⟩ := h
  subst ea
  subst eb
  show pt G' (zph G G' (mt G (2 * s))) = pt G' (zph G G' (mt G (2 * s + 1)))
  rw [zph_mt hn hr (by omega), zph_mt hn hr (by omega)]
  exact pt_kr (by omega)
/-- in an odd meeting of G' lies an odd one of G -/
theorem od_ex {G G' : Geo} (hn : G'.1 = G.1) (hr : ∀ a b, nr G a b → nr G' a b) {k : Nat} (ho : odd G' k = true) : ∃ m, m < mcn G ∧ zph G G' m = k ∧ odd G m = true := by
  by_cases c : ∃ m, m < mcn G ∧ zph G G' m = k ∧ odd G m = true
  · exact c
  · exfalso
    have h1 := sm_cnt (mt G) (fun m => decide (zph G G' m = k)) (M := mcn G) (2 * G.1) (fun e he => mt_lt he)
    have h2 : cnt (fun e => decide (zph G G' (mt G e) = k)) (2 * G.1) = ecn G' k := by
      unfold ecn
      rw [hn]
      exact cnt_ext (n := 2 * G.1) (fun e he => by rw [zph_mt hn hr he]) _ (Nat.le_refl _)
    have h3 := sm_ev (f := fun m => if decide (zph G G' m = k) = true then cnt (fun e => decide (mt G e = m)) (2 * G.1) else 0) (mcn G) (fun m hm => by
      show (if decide (zph G G' m = k) = true then ecn G m else 0) % 2 = 0
      by_cases e : zph G G' m = k
      · have : ¬ ecn G m % 2 = 1 := fun z => c ⟨m, hm, e, decide_eq_true z⟩
        rw [if_pos (decide_eq_true e)]
        omega
      · rw [if_neg (fun z => e (of_decide_eq_true z))])
    rw [h1, h2] at h3
    have h4 : ecn G' k % 2 = 1 := of_decide_eq_true ho
    omega
theorem oc_le {G G' : Geo} (hn : G'.1 = G.1) (hr : ∀ a b, nr G a b → nr G' a b) (q : Nat) : ocn G' q ≤ sm (fun p => if zps G G' p = q then ocn G p else 0) (pcn G) := by
  have e1 := sm_fib (F := pt G) (w := fun m => if odd G m = true ∧ zps G G' (pt G m) = q then 1 else 0) (k := pcn G) (mcn G) (fun m hm => pt_lt hm)
  have e2 := sm_fib (F := zph G G') (w := fun m => if odd G m = true ∧ zps G G' (pt G m) = q then 1 else 0) (k := mcn G') (mcn G) (fun m hm => zph_lt hn hm)
  have e3 : sm (fun p => if zps G G' p = q then ocn G p else 0) (pcn G) = sm (fun p => sm (fun m => if pt G m = p then (if odd G m = true ∧ zps G G' (pt G m) = q then 1 else 0) else 0) (mcn G)) (pcn G) := by
    refine sm_ext (n := pcn G) (fun p hp => ?_) _ (Nat.le_refl _)
    by_cases c : zps G G' p = q
    · rw [if_pos c]
      unfold ocn
      rw [cnt_sm]
      refine sm_ext (n := mcn G) (fun m hm => ?_) _ (Nat.le_refl _)
      by_cases a : pt G m = p
      · rw [if_pos a]
        cases o : odd G m
        · simp
        · simp [a, c]
      · rw [if_neg a]
        simp [a]
    · have z : sm (fun m => if pt G m = p then (if odd G m = true ∧ zps G G' (pt G m) = q then 1 else 0) else 0) (mcn G) = sm (fun _ => 0) (mcn G) := sm_ext (n := mcn G) (fun m hm => by
        by_cases a : pt G m = p
        · rw [if_pos a, if_neg (fun z => c (by rw [← a]; exact z.2))]
        · rw [if_neg a]) _ (Nat.le_refl _)
      rw [if_neg c, z, sm_0]
  have e4 := e2.trans (e1.symm.trans e3.symm)
  rw [← e4]
  unfold ocn
  rw [cnt_sm]
  refine smz_le (n := mcn G') (fun k hk => ?_) _ (Nat.le_refl _)
  by_cases c : (odd G' k && decide (pt G' k = q)) = true
  · rw [if_pos c]
    rw [Bool.and_eq_true] at c
    have c2 : pt G' k = q := of_decide_eq_true c.2
    obtain ⟨m, m1, m2, m3⟩ := od_ex hn hr c.1
    have h1 := sm_ge (f := fun m => if zph G G' m = k then (if odd G m = true ∧ zps G G' (pt G m) = q then 1 else 0) else 0) m1
    have h2 : zps G G' (pt G m) = q := by rw [zps_pt hn hr m1, m2, c2]
    simp only [if_pos m2, if_pos (show odd G m = true ∧ zps G G' (pt G m) = q from ⟨m3, h2⟩)] at h1
    exact h1
  · rw [if_neg c]
    exact Nat.zero_le _
theorem nTr_fib {G G' : Geo} (hn : G'.1 = G.1) (hr : ∀ a b, nr G a b → nr G' a b) {q : Nat} (hq : q < pcn G') : nTr G' q ≤ sm (fun p => if zps G G' p = q then nTr G p else 0) (pcn G) := by
  have h1 := oc_le hn hr q
  have h2 := smz_le (f := fun p => if zps G G' p = q then ocn G p else 0) (g := fun p => (if zps G G' p = q then nTr G p else 0) + (if zps G G' p = q then nTr G p else 0)) (n := pcn G) (fun p hp => by
    have := ocn_even G p
    show (if zps G G' p = q then ocn G p else 0) ≤ (if zps G G' p = q then nTr G p else 0) + (if zps G G' p = q then nTr G p else 0)
    unfold nTr
    by_cases c : zps G G' p = q
    · rw [if_pos c, if_pos c]; omega
    · rw [if_neg c, if_neg c] <;> omega) _ (Nat.le_refl _)
  rw [sm_add] at h2
  obtain ⟨a1, a2⟩ := fm_ok hq
  obtain ⟨b1, b2⟩ := fe_ok a1
  have b3 : fe G' (fm G' q) < 2 * G.1 := by omega
  have c1 := mt_lt b3
  have c2 : zps G G' (pt G (mt G (fe G' (fm G' q)))) = q := by rw [zps_pt hn hr c1, zph_mt hn hr b3, b2, a2]
  have h3 := sm_ge (f := fun p => if zps G G' p = q then nTr G p else 0) (pt_lt c1)
  simp only [if_pos c2] at h3
  have h4 : 1 ≤ nTr G (pt G (mt G (fe G' (fm G' q)))) := by unfold nTr; omega
  have h5 : nTr G' q = max 1 (ocn G' q / 2) := rfl
  omega
theorem trails_anti {G G' : Geo} (hn : G'.1 = G.1) (hr : ∀ a b, nr G a b → nr G' a b) : sm (nTr G') (pcn G') ≤ sm (nTr G) (pcn G) := by
  rw [← sm_fib (F := zps G G') (w := nTr G) (k := pcn G') (pcn G) (fun p hp => zps_lt hn hp)]
  exact smz_le (n := pcn G') (fun q hq => nTr_fib hn hr hq) _ (Nat.le_refl _)
theorem tn_anti {D : Dw} {i j : Int} (h : i ≤ j) : tn D j ≤ tn D i := by
  refine trails_anti (G := gD D i) (G' := gD D j) rfl (fun a b z => ?_)
  have z1 : ds (gD D i) a b ≤ i := z
  have z2 : ds (gD D j) a b = ds (gD D i) a b := rfl
  show ds (gD D j) a b ≤ j
  omega
theorem fewest_spec (g : Nat → Nat) : ∀ n, fewest g n ≤ n ∧ (∀ v, v ≤ n → g (fewest g n) ≤ g v) ∧ ∀ v, v < fewest g n → g (fewest g n) < g v
  | 0 => ⟨Nat.le_refl _, fun v hv => by rw [show v = 0 by omega]; exact Nat.le_refl _, fun v hv => absurd hv (Nat.not_lt_zero v)⟩
  | n + 1 => by
    obtain ⟨h1, h2, h3⟩ := fewest_spec g n
    unfold fewest
    by_cases c : g (n + 1) < g (fewest g n)
    · rw [if_pos c]
      refine ⟨Nat.le_refl _, fun v hv => ?_, fun v hv => ?_⟩
      · by_cases e : v = n + 1
        · subst e; exact Nat.le_refl _
        · have := h2 v (by omega); omega
      · have := h2 v (by omega); omega
    · rw [if_neg c]
      refine ⟨by omega, fun v hv => ?_, h3⟩
      by_cases e : v = n + 1
      · subst e; omega
      · exact h2 v (by omega)
theorem fewest_is {g : Nat → Nat} {n r : Nat} (hr : r ≤ n) (h1 : ∀ v, v < r → g r < g v) (h2 : ∀ v, v ≤ n → g r ≤ g v) : fewest g n = r := by
  obtain ⟨k1, k2, k3⟩ := fewest_spec g n
  rcases Nat.lt_trichotomy (fewest g n) r with z | z | z
  · have a := h1 _ z
    have b := k2 r hr
    omega
  · exact z
  · have a := k3 r z
    have b := h2 _ k1
    omega
