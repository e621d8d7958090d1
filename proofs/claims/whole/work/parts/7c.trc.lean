/-! Trails: gather -/
/-- where a step leads -/
noncomputable def oG (G : Geo) (q : Nat × Nat) : Nat := if eA G q.2 = q.1 then eB G q.2 else eA G q.2
theorem oe_oG (G : Geo) (p : Nat) (q : Nat × Nat) : oe (gP G p) q.2 q.1 = oG G q := rfl
def sl (G : Geo) (e : Nat) : Int := ds G (2 * e) (2 * e + 1)
def tL (G : Geo) (l : List (Nat × Nat)) : Int := (l.map (fun q => sl G q.2)).sum
theorem sl_in {G : Geo} (h : okG G) (e : Nat) : 0 ≤ sl G e ∧ sl G e ≤ 400 := ds_in h _ _
theorem tL_sn (G : Geo) (l : List (Nat × Nat)) (q : Nat × Nat) : tL G (l ++ [q]) = tL G l + sl G q.2 := by unfold tL; simp
theorem tL_in {G : Geo} (h : okG G) (l : List (Nat × Nat)) : 0 ≤ tL G l ∧ tL G l ≤ 400 * l.length := by
  induction l with
  | nil => simp [tL]
  | cons q l ih =>
    have h1 := sl_in h q.2
    have : tL G (q :: l) = sl G q.2 + tL G l := by unfold tL; simp
    rw [this, List.length_cons]; omega
/-- a step over a stroke -/
def stp (G : Geo) (q : Nat × Nat) : Prop := q.2 < G.1 ∧ (mt G (2 * q.2) = q.1 ∨ mt G (2 * q.2 + 1) = q.1)
theorem stp_w {G : Geo} {q : Nat × Nat} (hn : G.1 ≤ 24) (h : stp G q) : ∃ w w' : Nat, wcd G q = w ∧ w / 2 = q.2 ∧ w < 2 * G.1 ∧ mt G w = q.1 ∧ iXor (w : Int) 1 = (w' : Int) ∧ w' < 2 * G.1 ∧ mt G w' = oG G q := by
  obtain ⟨h1, h2⟩ := h
  obtain ⟨m, e⟩ := q
  simp only at h1 h2
  by_cases c : mt G (2 * e) = m
  · refine ⟨2 * e, 2 * e + 1, by rw [wcd_a (by omega) c]; omega, by omega, by omega, c, by rw [iXor_1 _ (by omega), if_pos (by omega)], by omega, ?_⟩
    unfold oG eA eB
    simp only [if_pos (show e < 24 by omega), if_pos c]
  · refine ⟨2 * e + 1, 2 * e, by rw [wcd_b (by omega) c]; omega, by omega, by omega, ?_, by rw [iXor_1 _ (by omega), if_neg (by omega)]; omega, by omega, ?_⟩
    · rcases h2 with h2 | h2
      · exact absurd h2 c
      · exact h2
    · unfold oG eA eB
      simp only [if_pos (show e < 24 by omega), if_neg c]
def wT (σ : StT) (G : Geo) : Prop := okD σ 4 ∧ geoD σ 4 G.2.1 = G ∧ okG G ∧ atM σ 7 G
theorem wT.n {σ : StT} {G : Geo} (h : wT σ G) : σ 4 2 = G.1 := by
  have h1 := h.1.1
  have : (geoD σ 4 G.2.1).1 = G.1 := by rw [h.2.1]
  have h2 : (σ 4 2).toNat = G.1 := this
  omega
theorem wT.ext {σ σ' : StT} {G : Geo} {lo hi : Nat} (h : wT σ G) (hf : frR lo hi σ σ') (hl : 20 ≤ lo) : wT σ' G :=
  ⟨okD_ext h.1 (hf 4 (by omega) 2) (fun e => hf 5 (by omega) e) (fun e => hf 6 (by omega) e), (geoD_ext (hf 4 (by omega) 2) (fun e => hf 5 (by omega) e) (fun e => hf 6 (by omega) e)).trans h.2.1, h.2.2.1, h.2.2.2.ext (fun b h1 h2 j => hf b (by omega) j)⟩
/-- one trail in the rows -/
def atT1 (σ : StT) (G : Geo) (t : Nat) (a : Nat × List (Nat × Nat)) (off : Nat) : Prop := σ 41 t = a.1 ∧ σ 42 t = a.2.length ∧ (a.2 ≠ [] → σ 43 t = (a.2.getD 0 (0, 0)).1 ∧ σ 44 t = oG G (a.2.getD (a.2.length - 1) (0, 0))) ∧ σ 45 t = tL G a.2 ∧ σ 48 t = off ∧ ∀ k, k < a.2.length → σ 47 (off + k) = wcd G (a.2.getD k (0, 0)) ∧ σ 46 (a.2.getD k (0, 0)).2 = t
def atT (σ : StT) (G : Geo) (T : Tr) : Prop := σ 40 9 = T.length ∧ σ 40 12 = (flat T).length ∧ ∀ T0 a T1, T = T0 ++ a :: T1 → atT1 σ G T0.length a (flat T0).length
theorem atT.ext {σ σ' : StT} {G : Geo} {T : Tr} (h : atT σ G T) (h0 : σ' 40 9 = σ 40 9) (h1 : σ' 40 12 = σ 40 12) (h2 : ∀ b, 41 ≤ b → b < 49 → ∀ j, σ' b j = σ b j) : atT σ' G T := by
  refine ⟨h0.trans h.1, h1.trans h.2.1, fun T0 a T1 e => ?_⟩
  obtain ⟨a1, a2, a3, a4, a5, a6⟩ := h.2.2 T0 a T1 e
  refine ⟨by rw [h2 41 (by omega) (by omega)]; exact a1, by rw [h2 42 (by omega) (by omega)]; exact a2, fun q => ?_, by rw [h2 45 (by omega) (by omega)]; exact a4, by rw [h2 48 (by omega) (by omega)]; exact a5, fun k hk => ?_⟩
  · rw [h2 43 (by omega) (by omega), h2 44 (by omega) (by omega)]; exact a3 q
  · rw [h2 47 (by omega) (by omega), h2 46 (by omega) (by omega)]; exact a6 k hk
theorem spl_sn {α : Type} {T T0 T1 : List α} {a b : α} (h : T ++ [b] = T0 ++ a :: T1) : (T0 = T ∧ a = b ∧ T1 = []) ∨ ∃ U, T1 = U ++ [b] ∧ T = T0 ++ a :: U := by
  by_cases c : T1 = []
  · subst c
    have := List.append_inj' h rfl
    exact Or.inl ⟨this.1.symm, (List.cons.inj this.2).1.symm, rfl⟩
  · obtain ⟨U, x, rfl⟩ : ∃ U x, T1 = U ++ [x] := ⟨T1.dropLast, T1.getLast c, (List.dropLast_concat_getLast c).symm⟩
    have e : T ++ [b] = (T0 ++ a :: U) ++ [x] := by rw [h]; simp
    have := List.append_inj' e rfl
    have hx : b = x := (List.cons.inj this.2).1
    subst hx
    exact Or.inr ⟨U, rfl, this.1⟩
theorem flat_cons (a : Nat × List (Nat × Nat)) (T : Tr) : flat (a :: T) = a.2 ++ flat T := by unfold flat; simp
theorem isD_a : isD 4 := Or.inl rfl
theorem gd_mem {α : Type} {d : α} {l : List α} {k : Nat} (h : k < l.length) : l.getD k d ∈ l := by
  rw [List.getD_eq_getElem?_getD, List.getElem?_eq_getElem h]; simp
section TRC
variable {S : ShT} {σ : StT} {Q : Int → StT → Prop}
theorem sp_open {G : Geo} {T : Tr} {p : Nat} {q : Nat × Nat} (hS : SHP S) (h : wT σ G) (hT : atT σ G T) (hl : T.length < 24) (hq : stp G q)
    (hQ : ∀ σ' : StT, atT σ' G (T ++ [(p, [])]) → σ' 43 T.length = q.1 → frR 40 49 σ σ' → Q 0 σ') : WPs mX8_open [vR 40, vI (p : Int), vI (wcd G q)] S σ Q := by
  have hn : G.1 ≤ 24 := h.2.2.1.1
  obtain ⟨w, w', w1, w2, w3, w4, w5, w6, w7⟩ := stp_w hn hq
  have h9 := hT.1
  have h12 := hT.2.1
  rw [w1]
  refine e_X8_open hS ⟨fun _ => ?_, fun q => absurd (by rw [h9]; omega) q⟩
  rw [h9, tn_cast]
  refine ⟨⟨by omega, by omega⟩, ⟨by omega, by omega⟩, ⟨by omega, by omega⟩, ?_⟩
  have F1 : frR 40 49 σ (up2 (up2 (up2 σ 41 T.length (p : Int)) 42 T.length 0) 45 T.length 0) := ((frR.rf.put (by omega) (by omega)).put (by omega) (by omega)).put (by omega) (by omega)
  have k41 : ∀ j, (up2 (up2 (up2 σ 41 T.length (p : Int)) 42 T.length 0) 45 T.length 0) 41 j = if j = T.length then (p : Int) else σ 41 j := fun j => by simp [up2]
  have k42 : ∀ j, (up2 (up2 (up2 σ 41 T.length (p : Int)) 42 T.length 0) 45 T.length 0) 42 j = if j = T.length then 0 else σ 42 j := fun j => by simp [up2]
  have k45 : ∀ j, (up2 (up2 (up2 σ 41 T.length (p : Int)) 42 T.length 0) 45 T.length 0) 45 j = if j = T.length then 0 else σ 45 j := fun j => by simp [up2]
  have kz : ∀ b, b ≠ 41 → b ≠ 42 → b ≠ 45 → ∀ j, (up2 (up2 (up2 σ 41 T.length (p : Int)) 42 T.length 0) 45 T.length 0) b j = σ b j := fun b b1 b2 b3 j => by rw [up2_a b3, up2_a b2, up2_a b1]
  generalize up2 (up2 (up2 σ 41 T.length (p : Int)) 42 T.length 0) 45 T.length 0 = σ1 at F1 k41 k42 k45 kz
  have em : σ1 (7 + 1 + 1) w = mt G w := by rw [kz _ (by decide) (by decide) (by decide)]; exact h.2.2.2.1.2.1 w w3
  refine e_X3_of hS isM_a ⟨⟨by omega, by omega⟩, ?_⟩
  rw [tn_cast, em, w4, kz 40 (by decide) (by decide) (by decide), kz 40 (by decide) (by decide) (by decide), h9, h12, tn_cast]
  refine ⟨⟨by omega, by omega⟩, ⟨by omega, by omega⟩, inR_s (by omega) (by omega), ?_⟩
  have F2 := ((F1.put (a := 43) (i := T.length) (v := (q.1 : Int)) (by omega) (by omega)).put (a := 48) (i := T.length) (v := ((flat T).length : Int)) (by omega) (by omega)).put (a := 40) (i := 9) (v := (T.length : Int) + 1) (by omega) (by omega)
  have e9 : (up2 (up2 (up2 σ1 43 T.length (q.1 : Int)) 48 T.length ((flat T).length : Int)) 40 9 ((T.length : Int) + 1)) 40 9 = (T.length : Int) + 1 := up2_s _ _ _ _
  have e12 : (up2 (up2 (up2 σ1 43 T.length (q.1 : Int)) 48 T.length ((flat T).length : Int)) 40 9 ((T.length : Int) + 1)) 40 12 = (flat T).length := by rw [up2_i (by decide), up2_a (by decide), up2_a (by decide), kz 40 (by decide) (by decide) (by decide)]; exact h12
  have e43 : ∀ j, (up2 (up2 (up2 σ1 43 T.length (q.1 : Int)) 48 T.length ((flat T).length : Int)) 40 9 ((T.length : Int) + 1)) 43 j = if j = T.length then (q.1 : Int) else σ1 43 j := fun j => by simp [up2]
  have e48 : ∀ j, (up2 (up2 (up2 σ1 43 T.length (q.1 : Int)) 48 T.length ((flat T).length : Int)) 40 9 ((T.length : Int) + 1)) 48 j = if j = T.length then ((flat T).length : Int) else σ1 48 j := fun j => by simp [up2]
  have ez : ∀ b, b ≠ 43 → b ≠ 48 → b ≠ 40 → ∀ j, (up2 (up2 (up2 σ1 43 T.length (q.1 : Int)) 48 T.length ((flat T).length : Int)) 40 9 ((T.length : Int) + 1)) b j = σ1 b j := fun b b1 b2 b3 j => by rw [up2_a b3, up2_a b2, up2_a b1]
  generalize up2 (up2 (up2 σ1 43 T.length (q.1 : Int)) 48 T.length ((flat T).length : Int)) 40 9 ((T.length : Int) + 1) = σ2 at F2 e9 e12 e43 e48 ez
  refine hQ σ2 ⟨by rw [e9]; simp, by rw [e12, flat_app, flat_one]; simp, fun T0 a T1 e => ?_⟩ (by rw [e43, if_pos rfl]) F2
  rcases spl_sn e with ⟨rfl, rfl, rfl⟩ | ⟨U, rfl, e2⟩
  · refine ⟨by rw [ez 41 (by decide) (by decide) (by decide), k41, if_pos rfl], by rw [ez 42 (by decide) (by decide) (by decide), k42, if_pos rfl]; rfl, fun c => absurd rfl c, by rw [ez 45 (by decide) (by decide) (by decide), k45, if_pos rfl]; rfl, by rw [e48, if_pos rfl], fun k hk => absurd hk (by simp)⟩
  · obtain ⟨a1, a2, a3, a4, a5, a6⟩ := hT.2.2 T0 a U e2
    have hlt : T0.length ≠ T.length := by rw [e2]; simp
    refine ⟨by rw [ez 41 (by decide) (by decide) (by decide), k41, if_neg hlt]; exact a1, by rw [ez 42 (by decide) (by decide) (by decide), k42, if_neg hlt]; exact a2, fun c => ?_, by rw [ez 45 (by decide) (by decide) (by decide), k45, if_neg hlt]; exact a4, by rw [e48, if_neg hlt, kz 48 (by decide) (by decide) (by decide)]; exact a5, fun k hk => ?_⟩
    · rw [e43, if_neg hlt, kz 43 (by decide) (by decide) (by decide), ez 44 (by decide) (by decide) (by decide), kz 44 (by decide) (by decide) (by decide)]; exact a3 c
    · rw [ez 47 (by decide) (by decide) (by decide), kz 47 (by decide) (by decide) (by decide), ez 46 (by decide) (by decide) (by decide), kz 46 (by decide) (by decide) (by decide)]; exact a6 k hk
theorem sp_strokeLength {G : Geo} {s : Nat} (hS : SHP S) (h : wT σ G) (hs : s < G.1) (hQ : Q (sl G s) σ) : WPs mX0_strokeLength [vR 4, vI (s : Int)] S σ Q := by
  have hn : G.1 ≤ 24 := h.2.2.1.1
  have h2 := h.n
  refine e_X0_strokeLength hS isD_a ⟨inR_s (by omega) (by omega), inR_s (by omega) (by omega), inR_s (by omega) (by omega), ?_⟩
  have := sp_endsApart (a := 2 * s) (b := 2 * s + 1) (j := G.2.1) (Q := Q) hS isD_a h.1 (by omega) (by omega) (by rw [h.2.1]; exact hQ)
  exact this
theorem sp_putStroke {G : Geo} {T : Tr} {p : Nat} {l : List (Nat × Nat)} {q : Nat × Nat} (hS : SHP S) (h : wT σ G) (hT : atT σ G (T ++ [(p, l)])) (hl : T.length < 24) (hl2 : (flat (T ++ [(p, l)])).length < 24) (hq : stp G q) (hb : l = [] → σ 43 T.length = q.1) (hd : ∀ x ∈ flat (T ++ [(p, l)]), x.2 ≠ q.2)
    (hQ : ∀ σ' : StT, atT σ' G (T ++ [(p, l ++ [q])]) → frR 40 49 σ σ' → Q 0 σ') : WPs mX8_putStroke [vR 40, vI (wcd G q)] S σ Q := by
  have hok := h.2.2.1
  have hn : G.1 ≤ 24 := hok.1
  obtain ⟨w, w', w1, w2, w3, w4, w5, w6, w7⟩ := stp_w hn hq
  have h9 := hT.1
  have h12 := hT.2.1
  rw [List.length_append, List.length_singleton] at h9
  obtain ⟨b1, b2, b3, b4, b5, b6⟩ := hT.2.2 T (p, l) [] rfl
  simp only at b1 b2 b3 b4 b5 b6
  have htl := tL_in hok l
  have hsl := sl_in hok q.2
  have hfl : (flat (T ++ [(p, l)])).length = (flat T).length + l.length := by rw [flat_app, flat_one, List.length_append]
  have hq1 := hq.1
  rw [w1]
  refine e_X8_putStroke hS ⟨fun q => absurd q (by rw [h9]; omega), fun _ => ⟨fun _ => ?_, fun q => absurd (by rw [h12]; omega) q⟩⟩
  rw [h9, show ((T.length + 1 : Nat) : Int) - 1 = (T.length : Int) by omega, tn_cast, b2, b4]
  refine ⟨inR_s (by omega) (by omega), ⟨by omega, by omega⟩, inR_s (by omega) (by omega), ⟨by omega, by omega⟩, ⟨by omega, by omega⟩, by omega, ?_⟩
  rw [show ((w : Int) / 2) = (q.2 : Int) by omega]
  have F1 : frR 40 49 σ (up2 σ 42 T.length ((l.length : Int) + 1)) := frR.rf.put (by omega) (by omega)
  refine sp_strokeLength hS (h.ext F1 (by omega)) hq.1 ?_
  refine ⟨inR_s (by omega) (by omega), ⟨by omega, by omega⟩, ?_⟩
  rw [w5]
  have F2 : frR 40 49 σ (up2 (up2 σ 42 T.length ((l.length : Int) + 1)) 45 T.length (tL G l + sl G q.2)) := F1.put (by omega) (by omega)
  have k42 : ∀ j, (up2 (up2 σ 42 T.length ((l.length : Int) + 1)) 45 T.length (tL G l + sl G q.2)) 42 j = if j = T.length then (l.length : Int) + 1 else σ 42 j := fun j => by simp [up2]
  have k45 : ∀ j, (up2 (up2 σ 42 T.length ((l.length : Int) + 1)) 45 T.length (tL G l + sl G q.2)) 45 j = if j = T.length then tL G l + sl G q.2 else σ 45 j := fun j => by simp [up2]
  have kz : ∀ b, b ≠ 42 → b ≠ 45 → ∀ j, (up2 (up2 σ 42 T.length ((l.length : Int) + 1)) 45 T.length (tL G l + sl G q.2)) b j = σ b j := fun b b1 b2 j => by rw [up2_a b2, up2_a b1]
  generalize up2 (up2 σ 42 T.length ((l.length : Int) + 1)) 45 T.length (tL G l + sl G q.2) = σ1 at F2 k42 k45 kz
  have em : σ1 (7 + 1 + 1) w' = mt G w' := by rw [kz _ (by decide) (by decide)]; exact h.2.2.2.1.2.1 w' w6
  refine e_X3_of hS isM_a ⟨⟨by omega, by omega⟩, ?_⟩
  rw [tn_cast, em, w7, kz 40 (by decide) (by decide), h12, tn_cast, tn_cast]
  refine ⟨⟨by omega, by omega⟩, by omega, ⟨by omega, by omega⟩, ⟨by omega, by omega⟩, inR_s (by omega) (by omega), ?_⟩
  rw [hfl]
  have F3 := (((F2.put (a := 44) (i := T.length) (v := (oG G q : Int)) (by omega) (by omega)).put (a := 46) (i := q.2) (v := (T.length : Int)) (by omega) (by omega)).put (a := 47) (i := (flat T).length + l.length) (v := (w : Int)) (by omega) (by omega)).put (a := 40) (i := 12) (v := (((flat T).length + l.length : Nat) : Int) + 1) (by omega) (by omega)
  generalize hs2 : up2 (up2 (up2 (up2 σ1 44 T.length (oG G q : Int)) 46 q.2 (T.length : Int)) 47 ((flat T).length + l.length) (w : Int)) 40 12 ((((flat T).length + l.length : Nat) : Int) + 1) = σ2 at F3
  have e9 : σ2 40 9 = ((T.length + 1 : Nat) : Int) := by rw [← hs2, up2_i (by decide), up2_a (by decide), up2_a (by decide), up2_a (by decide), kz 40 (by decide) (by decide)]; exact h9
  have e12 : σ2 40 12 = (((flat T).length + l.length : Nat) : Int) + 1 := by rw [← hs2, up2_s]
  have e44 : ∀ j, σ2 44 j = if j = T.length then (oG G q : Int) else σ 44 j := fun j => by rw [← hs2, ← kz 44 (by decide) (by decide)]; simp [up2]
  have e46 : ∀ j, σ2 46 j = if j = q.2 then (T.length : Int) else σ 46 j := fun j => by rw [← hs2, ← kz 46 (by decide) (by decide)]; simp [up2]
  have e47 : ∀ j, σ2 47 j = if j = (flat T).length + l.length then (w : Int) else σ 47 j := fun j => by rw [← hs2, ← kz 47 (by decide) (by decide)]; simp [up2]
  have ez : ∀ b, b ≠ 44 → b ≠ 46 → b ≠ 47 → b ≠ 40 → ∀ j, σ2 b j = σ1 b j := fun b b1 b2 b3 b4 j => by rw [← hs2, up2_a b4, up2_a b3, up2_a b2, up2_a b1]
  have e41 : ∀ j, σ2 41 j = σ 41 j := fun j => by rw [ez 41 (by decide) (by decide) (by decide) (by decide), kz 41 (by decide) (by decide)]
  have e42 : ∀ j, σ2 42 j = if j = T.length then (l.length : Int) + 1 else σ 42 j := fun j => by rw [ez 42 (by decide) (by decide) (by decide) (by decide), k42]
  have e43 : ∀ j, σ2 43 j = σ 43 j := fun j => by rw [ez 43 (by decide) (by decide) (by decide) (by decide), kz 43 (by decide) (by decide)]
  have e45 : ∀ j, σ2 45 j = if j = T.length then tL G l + sl G q.2 else σ 45 j := fun j => by rw [ez 45 (by decide) (by decide) (by decide) (by decide), k45]
  have e48 : ∀ j, σ2 48 j = σ 48 j := fun j => by rw [ez 48 (by decide) (by decide) (by decide) (by decide), kz 48 (by decide) (by decide)]
  clear hs2
  refine hQ σ2 ⟨by rw [e9]; simp, by rw [e12, flat_app, flat_one]; simp; omega, fun T0 a T1 e => ?_⟩ F3
  rcases spl_sn e with ⟨rfl, rfl, rfl⟩ | ⟨U, rfl, e2⟩
  · refine ⟨by rw [e41]; exact b1, by rw [e42, if_pos rfl]; simp, fun _ => ⟨?_, ?_⟩, by rw [e45, if_pos rfl, tL_sn], by rw [e48]; exact b5, fun k hk => ?_⟩
    · rw [e43]
      by_cases c : l = []
      · subst c; exact hb rfl
      · rw [gd_l (List.length_pos_iff.mpr c)]; exact (b3 c).1
    · rw [e44, if_pos rfl, show (l ++ [q]).length - 1 = l.length by simp, gd_r (Nat.le_refl _)]; simp
    · simp only [List.length_append, List.length_singleton] at hk
      rw [e47, e46]
      by_cases c : k = l.length
      · subst c
        rw [gd_r (Nat.le_refl _)]
        simp [w1]
      · have hk' : k < l.length := by omega
        rw [gd_l hk', if_neg (by omega), if_neg (hd _ (by rw [flat_app, flat_one]; exact List.mem_append_right _ (gd_mem hk')))]
        exact b6 k hk'
  · obtain ⟨a1, a2, a3, a4, a5, a6⟩ := hT.2.2 T0 a (U ++ [(p, l)]) (by rw [e2]; simp)
    have hlt : T0.length ≠ T.length := by rw [e2]; simp
    refine ⟨by rw [e41]; exact a1, by rw [e42, if_neg hlt]; exact a2, fun c => ?_, by rw [e45, if_neg hlt]; exact a4, by rw [e48]; exact a5, fun k hk => ?_⟩
    · rw [e43, e44, if_neg hlt]; exact a3 c
    · have hf : (flat T).length = (flat T0).length + (a.2.length + (flat U).length) := by rw [e2, flat_app, flat_cons, List.length_append, List.length_append]
      rw [e47, e46, if_neg (by omega), if_neg (hd _ (by
        rw [flat_app, e2, flat_app, flat_cons]
        exact List.mem_append_left _ (List.mem_append_right _ (List.mem_append_left _ (gd_mem hk)))))]
      exact a6 k hk
end TRC
