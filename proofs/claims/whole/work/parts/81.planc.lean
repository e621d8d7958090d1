/-! Plan: what its methods answer -/
def wP (σ : StT) (G : Geo) (H : Int × Int) (T : Tr) : Prop := wT σ G ∧ σ 4 5 = H.1 ∧ σ 4 6 = H.2 ∧ okH H ∧ atT σ G T ∧ okTr G T
theorem wP.ext {σ σ' : StT} {G : Geo} {H : Int × Int} {T : Tr} {lo hi : Nat} (h : wP σ G H T) (hf : frR lo hi σ σ') (hl : 49 ≤ lo) : wP σ' G H T :=
  ⟨h.1.ext hf (by omega), by rw [hf 4 (by omega)]; exact h.2.1, by rw [hf 4 (by omega)]; exact h.2.2.1, h.2.2.2.1, h.2.2.2.2.1.ext (hf 40 (by omega) 9) (hf 40 (by omega) 12) (fun b b1 b2 j => hf b (by omega) j), h.2.2.2.2.2⟩
theorem wP.n {σ : StT} {G : Geo} {H : Int × Int} {T : Tr} (h : wP σ G H T) : G.1 ≤ 24 := h.1.2.2.1.1
def pl (σ : StT) (p N : Nat) (f : Nat → Nat) : Prop := σ p 4 = N ∧ ∀ i, i < N → σ (p + 1) i = f i
def okF (T : Tr) (N : Nat) (f : Nat → Nat) : Prop := N ≤ 24 ∧ ∀ i, i < N → f i / 2 < T.length
theorem atT.at {σ : StT} {G : Geo} {T : Tr} {t : Nat} (h : atT σ G T) (ht : t < T.length) : ∃ off, off + (tg T t).2.length ≤ (flat T).length ∧ atT1 σ G t (tg T t) off := by
  obtain ⟨T0, T1, e, hl⟩ := tg_spl ht
  have := h.2.2 T0 _ T1 e
  rw [hl] at this
  refine ⟨_, ?_, this⟩
  have e2 : (flat T).length = (flat T0).length + ((tg T t).2.length + (flat T1).length) := by
    conv => lhs; rw [e]
    rw [flat_app, flat_cons, List.length_append, List.length_append]
  omega
theorem wP.be {σ : StT} {G : Geo} {H : Int × Int} {T : Tr} {t : Nat} (h : wP σ G H T) (ht : t < T.length) : σ 43 t = tB T t ∧ σ 44 t = tE G T t := by
  obtain ⟨off, -, -, -, h3, -⟩ := h.2.2.2.2.1.at ht
  exact h3 (h.2.2.2.2.2.1 _ (tg_mem ht))
theorem wP.le {σ : StT} {G : Geo} {H : Int × Int} {T : Tr} (h : wP σ G H T) : T.length ≤ 24 := Nat.le_trans h.2.2.2.2.2.le h.n
def okS (G : Geo) (a : Int) : Prop := a = -1 ∨ (0 ≤ a ∧ a < mcn G)
section PLANC
variable {S : ShT} {σ : StT} {p : Nat} {Q : Int → StT → Prop} {G : Geo} {H : Int × Int} {T : Tr} {N : Nat} {f : Nat → Nat}
theorem sp_xOf {a : Int} (hS : SHP S) (h : wP σ G H T) (ha : okS G a) (hQ : Q (sX G H a) σ) : WPs mX3_xOf [vR 7, vI a] S σ Q := by
  have hml := mcn_le G
  have hn := h.n
  refine e_X3_xOf hS isM_a ⟨fun q => ?_, fun q => ?_⟩
  · rcases ha with c | ⟨c1, c2⟩
    · exact absurd c q
    · refine ⟨⟨by omega, by omega⟩, ?_⟩
      have := h.1.2.2.2.1.2.2.2.1 a.toNat (by omega)
      have this : σ (7 + 9) a.toNat = _ := this
      rw [this]
      unfold sX at hQ; rw [if_neg q] at hQ; exact hQ
  · rw [h.2.1]; unfold sX at hQ; rw [if_pos q] at hQ; exact hQ
theorem sp_yOf {a : Int} (hS : SHP S) (h : wP σ G H T) (ha : okS G a) (hQ : Q (sY G H a) σ) : WPs mX3_yOf [vR 7, vI a] S σ Q := by
  have hml := mcn_le G
  have hn := h.n
  refine e_X3_yOf hS isM_a ⟨fun q => ?_, fun q => ?_⟩
  · rcases ha with c | ⟨c1, c2⟩
    · exact absurd c q
    · refine ⟨⟨by omega, by omega⟩, ?_⟩
      have := h.1.2.2.2.1.2.2.2.2 a.toNat (by omega)
      have this : σ (7 + 10) a.toNat = _ := this
      rw [this]
      unfold sY at hQ; rw [if_neg q] at hQ; exact hQ
  · rw [h.2.2.1]; unfold sY at hQ; rw [if_pos q] at hQ; exact hQ
theorem sp_ap {a b : Int} (hS : SHP S) (h : wP σ G H T) (ha : okS G a) (hb : okS G b) (hQ : Q (apd G H a b) σ) : WPs mX3_apart [vR 7, vI a, vI b] S σ Q := by
  obtain ⟨a1, a2⟩ := sXY_in h.1.2.2.1 h.2.2.2.1 a
  obtain ⟨b1, b2⟩ := sXY_in h.1.2.2.1 h.2.2.2.1 b
  have h5 := iab_le (a := sX G H a - sX G H b) (m := 200) (by omega) (by omega)
  have h6 := iab_le (a := sY G H a - sY G H b) (m := 200) (by omega) (by omega)
  have h7 := iab_pos (sX G H a - sX G H b)
  have h8 := iab_pos (sY G H a - sY G H b)
  refine e_X3_apart hS isM_a (sp_xOf hS h ha (sp_xOf hS h hb ⟨inR_s (by omega) (by omega), inR_s (by omega) (by omega), sp_yOf hS h ha (sp_yOf hS h hb ⟨inR_s (by omega) (by omega), inR_s (by omega) (by omega), inR_s (by omega) (by omega), hQ⟩)⟩))
theorem sp_trailAt {i : Nat} (hS : SHP S) (hp : isP p) (hf : pl σ p N f) (hN : N ≤ 24) (hi : i < N) (hQ : Q ((f i / 2 : Nat) : Int) σ) : WPs mX5_trailAt [vR p, vI (i : Int)] S σ Q := by
  refine e_X5_trailAt hS hp ⟨⟨by omega, by omega⟩, ?_⟩
  rw [tn_cast, hf.2 i hi]
  exact ⟨by omega, hQ⟩
theorem sp_isBackwards {i : Nat} (hS : SHP S) (hp : isP p) (hf : pl σ p N f) (hN : N ≤ 24) (hi : i < N) (hQ : Q (if f i % 2 = 1 then 1 else 0) σ) : WPs mX5_isBackwards [vR p, vI (i : Int)] S σ Q := by
  refine e_X5_isBackwards hS hp ⟨⟨by omega, by omega⟩, ?_⟩
  rw [tn_cast, hf.2 i hi]
  refine ⟨by omega, fun q => ?_, fun q => ?_⟩
  · rw [if_neg (by omega)] at hQ; exact hQ
  · rw [if_pos (by omega)] at hQ; exact hQ
theorem sp_beginOf {i : Nat} (hS : SHP S) (hp : isP p) (h : wP σ G H T) (hf : pl σ p N f) (ho : okF T N f) (hi : i < N) (hQ : Q (bgC G T (f i) : Int) σ) : WPs mX5_beginOf [vR p, vI (i : Int)] S σ Q := by
  have ht := ho.2 i hi
  obtain ⟨e1, e2⟩ := h.be ht
  have hle := h.le
  refine e_X5_beginOf hS hp (sp_isBackwards hS hp hf ho.1 hi ⟨fun q => ?_, fun q => ?_⟩)
  · refine sp_trailAt hS hp hf ho.1 hi ⟨⟨by omega, by omega⟩, ?_⟩
    rw [tn_cast, e1]
    unfold bgC at hQ
    by_cases c : f i % 2 = 1
    · rw [if_pos c] at q; omega
    · rw [if_neg c] at hQ; exact hQ
  · refine sp_trailAt hS hp hf ho.1 hi ⟨⟨by omega, by omega⟩, ?_⟩
    rw [tn_cast, e2]
    unfold bgC at hQ
    by_cases c : f i % 2 = 1
    · rw [if_pos c] at hQ; exact hQ
    · rw [if_neg c] at q; exact absurd rfl q
theorem sp_endOf {i : Nat} (hS : SHP S) (hp : isP p) (h : wP σ G H T) (hf : pl σ p N f) (ho : okF T N f) (hi : i < N) (hQ : Q (enC G T (f i) : Int) σ) : WPs mX5_endOf [vR p, vI (i : Int)] S σ Q := by
  have ht := ho.2 i hi
  obtain ⟨e1, e2⟩ := h.be ht
  have hle := h.le
  refine e_X5_endOf hS hp (sp_isBackwards hS hp hf ho.1 hi ⟨fun q => ?_, fun q => ?_⟩)
  · refine sp_trailAt hS hp hf ho.1 hi ⟨⟨by omega, by omega⟩, ?_⟩
    rw [tn_cast, e2]
    unfold enC at hQ
    by_cases c : f i % 2 = 1
    · rw [if_pos c] at q; omega
    · rw [if_neg c] at hQ; exact hQ
  · refine sp_trailAt hS hp hf ho.1 hi ⟨⟨by omega, by omega⟩, ?_⟩
    rw [tn_cast, e1]
    unfold enC at hQ
    by_cases c : f i % 2 = 1
    · rw [if_pos c] at hQ; exact hQ
    · rw [if_neg c] at q; exact absurd rfl q
theorem okTr.bc {c : Nat} (hn : G.1 ≤ 24) (h : okTr G T) (hc : c / 2 < T.length) : okS G (bgC G T c) ∧ okS G (enC G T c) := by
  obtain ⟨a, b⟩ := h.be hn hc
  unfold bgC enC
  constructor <;> (split <;> exact Or.inr ⟨by omega, by omega⟩)
theorem spA_ok {i : Nat} (hn : G.1 ≤ 24) (h : okTr G T) (ho : okF T N f) (hi : i ≤ N) : okS G (spA G T f i) := by
  unfold spA
  by_cases c : i = 0
  · rw [if_pos c]; exact Or.inl rfl
  · rw [if_neg c]; exact (h.bc hn (ho.2 (i - 1) (by omega))).2
theorem spB_ok {i : Nat} (hn : G.1 ≤ 24) (h : okTr G T) (ho : okF T N f) : okS G (spB G T N f i) := by
  unfold spB
  by_cases c : i < N
  · rw [if_pos c]; exact (h.bc hn (ho.2 i c)).1
  · rw [if_neg c]; exact Or.inl rfl
theorem sp_spotAhead {i : Nat} (hS : SHP S) (hp : isP p) (h : wP σ G H T) (hf : pl σ p N f) (ho : okF T N f) (hi : i ≤ N) (hQ : Q (spA G T f i) σ) : WPs mX5_spotAhead [vR p, vI (i : Int)] S σ Q := by
  have hN := ho.1
  refine e_X5_spotAhead hS hp ⟨fun q => ?_, fun q => ⟨inR_s (by omega) (by omega), ?_⟩⟩
  · unfold spA at hQ; rw [if_pos (by omega)] at hQ; exact hQ
  · rw [show (i : Int) - 1 = ((i - 1 : Nat) : Int) by omega]
    refine sp_endOf hS hp h hf ho (by omega) ?_
    unfold spA at hQ; rw [if_neg (by omega)] at hQ; exact hQ
theorem sp_spotBehind {i : Nat} (hS : SHP S) (hp : isP p) (h : wP σ G H T) (hf : pl σ p N f) (ho : okF T N f) (hi : i ≤ N) (hQ : Q (spB G T N f i) σ) : WPs mX5_spotBehind [vR p, vI ((i : Int) - 1)] S σ Q := by
  have hN := ho.1
  refine e_X5_spotBehind hS hp ?_
  rw [hf.1]
  refine ⟨inR_s (by omega) (by omega), fun q => ?_, fun q => ⟨inR_s (by omega) (by omega), ?_⟩⟩
  · unfold spB at hQ; rw [if_neg (by omega)] at hQ; exact hQ
  · rw [show (i : Int) - 1 + 1 = (i : Int) by omega]
    refine sp_beginOf hS hp h hf ho (by omega) ?_
    unfold spB at hQ; rw [if_pos (by omega)] at hQ; exact hQ
theorem sp_leg {i : Nat} (hS : SHP S) (hp : isP p) (h : wP σ G H T) (hf : pl σ p N f) (ho : okF T N f) (hi : i ≤ N) (hQ : Q (lg G H T N f i) σ) : WPs mX5_leg [vR p, vI (i : Int)] S σ Q := by
  have hN := ho.1
  exact e_X5_leg hS hp (sp_spotAhead hS hp h hf ho hi ⟨inR_s (by omega) (by omega), sp_spotBehind hS hp h hf ho hi (sp_ap hS h (spA_ok h.n h.2.2.2.2.2 ho hi) (spB_ok h.n h.2.2.2.2.2 ho) hQ)⟩)
theorem lg_in (h : wP σ G H T) (i : Nat) : 0 ≤ lg G H T N f i ∧ lg G H T N f i ≤ 400 := apd_in h.1.2.2.1 h.2.2.2.1 _ _
theorem sp_wholeTravel (hS : SHP S) (hp : isP p) (h : wP σ G H T) (hf : pl σ p N f) (ho : okF T N f) (hQ : Q (trv G H T N f) σ) : WPs mX5_wholeTravel [vR p] S σ Q := by
  have hN := ho.1
  refine e_X5_wholeTravel hS hp ?_
  rw [hf.1]
  unfold trv at hQ
  refine ⟨fun q => ?_, fun q => by rw [if_pos (by omega)] at hQ; exact hQ⟩
  rw [if_neg (by omega)] at hQ
  refine lupg (α := Int) (I := fun i x => 0 ≤ i ∧ i ≤ (N : Int) + 1 ∧ x = si (lg G H T N f) i.toNat) (W := fun i x => AWs mX5_wholeTravel 13 [(0, vR p), (1, vI x), (2, vI i)] [] S σ Q) ((N : Int) + 1) ?_ ?_ 0 0 ⟨by omega, by omega, rfl⟩
  · rintro i x ⟨i0, i1, rfl⟩ hge
    have ei : i = ((N + 1 : Nat) : Int) := by omega
    subst ei
    refine t_X5_wholeTravel_13 hS hp ?_
    rw [hf.1, tn_cast]
    exact ⟨fun _ => hQ, fun q => absurd (by omega) q⟩
  · rintro i x ⟨i0, i1, rfl⟩ hlt kk
    obtain ⟨i, rfl⟩ := nat_of i0
    refine t_X5_wholeTravel_13 hS hp ?_
    rw [hf.1, tn_cast]
    refine ⟨fun q => absurd q (by omega), fun _ => sp_leg hS hp h hf ho (by omega) ?_⟩
    have b1 := si_in (fun i => lg_in (N := N) (f := f) h i) i
    have b2 := lg_in (N := N) (f := f) h i
    exact ⟨inR_s (by omega) (by omega), inR_s (by omega) (by omega), kk _ ⟨by omega, by omega, rfl⟩⟩
theorem trv_in (h : wP σ G H T) (ho : okF T N f) : 0 ≤ trv G H T N f ∧ trv G H T N f ≤ 10000 := by
  unfold trv
  have hN := ho.1
  split
  · omega
  · have := si_in (fun i => lg_in (N := N) (f := f) h i) (N + 1); omega
theorem sp_allLengths (hS : SHP S) (h : wT σ G) (hQ : Q (si (sl G) G.1) σ) : WPs mX0_allLengths [vR 4] S σ Q := by
  have hn : G.1 ≤ 24 := h.2.2.1.1
  have hn2 := h.n
  refine e_X0_allLengths hS isD_a ?_
  refine lupg (α := Int) (I := fun i x => 0 ≤ i ∧ i ≤ (G.1 : Int) ∧ x = si (sl G) i.toNat) (W := fun i x => AWs mX0_allLengths 4 [(0, vR 4), (1, vI x), (2, vI i)] [] S σ Q) (G.1 : Int) ?_ ?_ 0 0 ⟨by omega, by omega, rfl⟩
  · rintro i x ⟨i0, i1, rfl⟩ hge
    have ei : i = (G.1 : Int) := by omega
    subst ei
    exact t_X0_allLengths_4 hS isD_a ⟨fun _ => hQ, fun q => absurd (by omega) q⟩
  · rintro i x ⟨i0, i1, rfl⟩ hlt kk
    obtain ⟨i, rfl⟩ := nat_of i0
    refine t_X0_allLengths_4 hS isD_a ⟨fun q => absurd q (by omega), fun _ => sp_strokeLength hS h (by omega) ?_⟩
    have b1 := si_in (fun i => sl_in h.2.2.1 i) i
    have b2 := sl_in h.2.2.1 i
    rw [tn_cast]
    exact ⟨inR_s (by omega) (by omega), inR_s (by omega) (by omega), kk _ ⟨by omega, by omega, rfl⟩⟩
theorem mul_in {a b : Int} {m n : Nat} (h1 : 0 ≤ a) (h2 : a ≤ m) (h3 : 0 ≤ b) (h4 : b ≤ n) : 0 ≤ a * b ∧ a * b ≤ ((m * n : Nat) : Int) := by
  refine ⟨Int.mul_nonneg h1 h3, ?_⟩
  rw [Int.natCast_mul]
  exact Int.mul_le_mul h2 h4 h3 (by omega)
theorem sp_wholeTime {dn up : Int} (hS : SHP S) (hp : isP p) (h : wP σ G H T) (hf : pl σ p N f) (ho : okF T N f) (hd : σ 4 7 = dn) (hu : σ 4 8 = up) (d0 : 0 ≤ dn) (d9 : dn ≤ 9) (u0 : 0 ≤ up) (u9 : up ≤ 9) (hQ : Q (dn * si (sl G) G.1 + up * trv G H T N f) σ) : WPs mX5_wholeTime [vR p] S σ Q := by
  have b1 := si_in (fun i => sl_in h.1.2.2.1 i) G.1
  have b2 := trv_in h ho
  have hn := h.n
  have m1 := mul_in (m := 9) (n := 9600) d0 d9 b1.1 (by omega)
  have m2 := mul_in (m := 9) (n := 10000) u0 u9 b2.1 (by omega)
  refine e_X5_wholeTime hS hp (sp_allLengths hS h.1 ?_)
  rw [hd]
  refine ⟨inR_s (by omega) (by omega), sp_wholeTravel hS hp h hf ho ?_⟩
  rw [hu]
  exact ⟨inR_s (by omega) (by omega), inR_s (by omega) (by omega), hQ⟩
theorem sp_changeBy {i k : Nat} (hS : SHP S) (hp : isP p) (h : wP σ G H T) (hf : pl σ p N f) (ho : okF T N f) (hik : i ≤ k) (hk : k < N) (hQ : Q (chg G H T N f i k) σ) : WPs mX5_changeBy [vR p, vI (i : Int), vI (k : Int)] S σ Q := by
  have hn := h.n
  have hT := h.2.2.2.2.2
  have a1 := spA_ok (i := i) hn hT ho (by omega)
  have a2 := spB_ok (i := k + 1) hn hT ho
  have c1 := hT.bc hn (ho.2 i (by omega))
  have c2 := hT.bc hn (ho.2 k hk)
  have d := fun a b => apd_in (H := H) h.1.2.2.1 h.2.2.2.1 a b
  refine e_X5_changeBy hS hp (sp_spotAhead hS hp h hf ho (by omega) ?_)
  rw [show (k : Int) = ((k + 1 : Nat) : Int) - 1 by omega]
  refine sp_spotBehind hS hp h hf ho (by omega) ?_
  rw [show ((k + 1 : Nat) : Int) - 1 = (k : Int) by omega]
  refine sp_beginOf hS hp h hf ho (by omega) (sp_ap hS h a1 c1.1 (sp_endOf hS hp h hf ho hk (sp_ap hS h c2.2 a2 ?_)))
  have d1 := d (spA G T f i) (bgC G T (f i))
  have d2 := d (enC G T (f k)) (spB G T N f (k + 1))
  have d3 := d (spA G T f i) (enC G T (f k))
  have d4 := d (bgC G T (f i)) (spB G T N f (k + 1))
  refine ⟨inR_s (by omega) (by omega), sp_endOf hS hp h hf ho hk (sp_ap hS h a1 c2.2 (sp_beginOf hS hp h hf ho (by omega) (sp_ap hS h c1.1 a2 ?_)))⟩
  exact ⟨inR_s (by omega) (by omega), inR_s (by omega) (by omega), hQ⟩
end PLANC
