/-! Model: trails -/
def mT1 (σ : StT) (G : Geo) (t : Nat) (a : Nat × List (Nat × Nat)) (L : Nat) : Prop := σ 149 t = a.1 ∧ σ 151 t = a.2.length ∧ (a.2 ≠ [] → σ 152 t = (a.2.getD 0 (0, 0)).1 ∧ σ 153 t = oG G (a.2.getD (a.2.length - 1) (0, 0))) ∧ ∃ off : Nat, σ 150 t = off ∧ off + a.2.length ≤ L ∧ ∀ k, k < a.2.length → σ 148 (off + k) = wcd G (a.2.getD k (0, 0))
def mTr (σ : StT) (G : Geo) (T : Tr) (L : Nat) : Prop := σ 125 50 = T.length ∧ ∀ T0 a T1, T = T0 ++ a :: T1 → mT1 σ G T0.length a L
theorem mT1.ext {σ σ' : StT} {G : Geo} {t : Nat} {a : Nat × List (Nat × Nat)} {L L' : Nat} (h : mT1 σ G t a L) (hL : L ≤ L') (h1 : σ' 149 t = σ 149 t) (h2 : σ' 151 t = σ 151 t) (h3 : σ' 152 t = σ 152 t) (h4 : σ' 153 t = σ 153 t) (h5 : σ' 150 t = σ 150 t) (h6 : ∀ j, j < L → σ' 148 j = σ 148 j) : mT1 σ' G t a L' := by
  obtain ⟨a1, a2, a3, off, a4, a5, a6⟩ := h
  refine ⟨h1.trans a1, h2.trans a2, fun q => by rw [h3, h4]; exact a3 q, off, h5.trans a4, by omega, fun k hk => ?_⟩
  rw [h6 _ (by omega)]; exact a6 k hk
theorem mTr.ext {σ σ' : StT} {G : Geo} {T : Tr} {L L' : Nat} (h : mTr σ G T L) (hL : L ≤ L') (h0 : σ' 125 50 = σ 125 50) (h1 : ∀ b, 149 ≤ b → b < 154 → ∀ j, σ' b j = σ b j) (h6 : ∀ j, j < L → σ' 148 j = σ 148 j) : mTr σ' G T L' :=
  ⟨h0.trans h.1, fun T0 a T1 e => (h.2 T0 a T1 e).ext hL (h1 149 (by omega) (by omega) _) (h1 151 (by omega) (by omega) _) (h1 152 (by omega) (by omega) _) (h1 153 (by omega) (by omega) _) (h1 150 (by omega) (by omega) _) h6⟩
theorem wcd_isS {G : Geo} {q : Nat × Nat} : (0 ≤ wcd G q ↔ isS q = true) := by
  obtain ⟨m, e⟩ := q
  unfold isS
  by_cases h : e < 24
  · have := wcd_st (G := G) (m := m) h
    simp [h]; omega
  · obtain ⟨i, rfl⟩ : ∃ i, e = 24 + i := ⟨e - 24, by omega⟩
    rw [wcd_h]; simp; omega
section MTRAIL
variable {S : ShT} {σ : StT} {Q : Int → StT → Prop} {G : Geo}
theorem m_putT {T : Tr} {p k L : Nat} {l : List (Nat × Nat)} {q : Nat × Nat} {v2 : Int} (hS : SHP S) (hT : mTr σ G (T ++ [(p, l)]) L) (hO : σ 150 T.length + l.length = L) (hl : T.length < 24) (hl2 : l.length < 48) (hk : k < 48) (h148 : σ 148 L = wcd G q) (hb : l = [] → σ 152 T.length = q.1) (h144 : σ 144 (k + 1) = oG G q)
    (hQ : ∀ σ' : StT, mTr σ' G (T ++ [(p, l ++ [q])]) (L + 1) → σ' 150 T.length + (l ++ [q]).length = ((L + 1 : Nat) : Int) → fr [151, 153] σ σ' → AWs mX11_laysTrails 12 [(0, vR 125), (1, vI (p : Int)), (2, vI v2), (3, vI 1), (4, vI ((k : Int) + 1))] [] S σ' Q) : AWs mX11_laysTrails 117 [(0, vR 125), (1, vI (p : Int)), (2, vI v2), (3, vI 1), (4, vI (k : Int))] [] S σ Q := by
  have h50 := hT.1
  rw [List.length_append, List.length_singleton] at h50
  obtain ⟨a1, a2, a3, off, a4, a5, a6⟩ := hT.2 T (p, l) [] rfl
  simp only at a1 a2 a3 a4 a5 a6
  have et : (σ 125 50 - 1).toNat = T.length := by omega
  refine t_X11_laysTrails_117 hS ?_
  rw [et, show ((k : Int) + 1).toNat = k + 1 by omega, a2, h144]
  refine ⟨inR_s (by omega) (by omega), ⟨by omega, by omega⟩, inR_s (by omega) (by omega), ⟨by omega, by omega⟩, inR_s (by omega) (by omega), inR_s (by omega) (by omega), ⟨by omega, by omega⟩, ⟨by omega, by omega⟩, inR_s (by omega) (by omega), ?_⟩
  have F : fr [151, 153] σ (up2 (up2 σ 151 T.length ((l.length : Int) + 1)) 153 T.length (oG G q : Int)) := (fr.rf.put (by simp)).put (by simp)
  have e151 : ∀ j, (up2 (up2 σ 151 T.length ((l.length : Int) + 1)) 153 T.length (oG G q : Int)) 151 j = if j = T.length then (l.length : Int) + 1 else σ 151 j := fun j => by simp [up2]
  have e153 : ∀ j, (up2 (up2 σ 151 T.length ((l.length : Int) + 1)) 153 T.length (oG G q : Int)) 153 j = if j = T.length then (oG G q : Int) else σ 153 j := fun j => by simp [up2]
  generalize up2 (up2 σ 151 T.length ((l.length : Int) + 1)) 153 T.length (oG G q : Int) = σ' at F e151 e153
  refine hQ σ' ⟨?_, fun T0 a T1 e => ?_⟩ (by rw [F 150 (by decide), List.length_append, List.length_singleton]; omega) F
  · rw [F 125 (by decide), List.length_append, List.length_singleton]; omega
  · rcases spl_sn e with ⟨rfl, rfl, rfl⟩ | ⟨U, rfl, e2⟩
    · refine ⟨by rw [F 149 (by decide)]; exact a1, by rw [e151, if_pos rfl]; simp, fun _ => ⟨?_, ?_⟩, off, by rw [F 150 (by decide)]; exact a4, by simp; omega, fun j hj => ?_⟩
      · rw [F 152 (by decide)]
        by_cases c : l = []
        · rw [hb c, c]; rfl
        · show _ = (((l ++ [q]).getD 0 (0, 0)).1 : Int)
          rw [gd_l (List.length_pos_iff.mpr c)]; exact (a3 c).1
      · rw [e153, if_pos rfl]
        simp
      · rw [F 148 (by decide)]
        show _ = wcd G ((l ++ [q]).getD j (0, 0))
        by_cases c : j < l.length
        · rw [gd_l c]; exact a6 j c
        · have hj' : j < l.length + 1 := by simpa using hj
          have ej : j = l.length := by omega
          subst ej
          rw [gd_r (by omega), show off + l.length = L by omega, h148]; simp
    · have hlt : T0.length ≠ T.length := by rw [e2]; simp
      exact (hT.2 T0 a (U ++ [(p, l)]) (by rw [e2]; simp)).ext (by omega) (F 149 (by decide) _) (by rw [e151, if_neg hlt]) (F 152 (by decide) _) (by rw [e153, if_neg hlt]) (F 150 (by decide) _) (fun j _ => F 148 (by decide) j)
/-- what stands behind k steps of part p -/
def mTk (σ : StT) (G : Geo) (p k : Nat) : Prop := mTr σ G (tk G p k).1 ((WA G p).length + k) ∧ ((tk G p k).2 = true → ∀ T a, (tk G p k).1 = T ++ [a] → σ 150 T.length + a.2.length = (((WA G p).length + k : Nat) : Int)) ∧ ∀ j, j < (WA G p).length + k → σ 148 j = wcd G ((WA G (p + 1)).getD j (0, 0))
theorem m_laysTrails {p : Nat} (hS : SHP S) (hok : okG G) (hp : p < pcn G) (hw : wsM σ G (wkW G p) (wkS G p)) (h147 : σ 147 p = (WA G p).length) (hT : mTr σ G (TR G p) (WA G p).length) (h148 : ∀ j, j < (WA G p).length → σ 148 j = wcd G ((WA G p).getD j (0, 0)))
    (hQ : ∀ σ' : StT, mTr σ' G (TR G (p + 1)) (WA G (p + 1)).length → (∀ j, j < (WA G (p + 1)).length → σ' 148 j = wcd G ((WA G (p + 1)).getD j (0, 0))) → σ' 147 (p + 1) = (WA G (p + 1)).length → (∀ q, q ≠ p + 1 → σ' 147 q = σ 147 q) → fr [125, 147, 148, 149, 150, 151, 152, 153] σ σ' → (∀ j, j ≠ 50 → σ' 125 j = σ 125 j) → Q 0 σ') : WPs mX11_laysTrails [vR 125, vI (p : Int)] S σ Q := by
  have hn : G.1 ≤ 24 := hok.1
  have hpn := pcn_le_n G
  have hl48 := WA_len (G := G) (P := p + 1) hn (by omega)
  have hsl := WA_sl G p
  obtain ⟨⟨⟨c1, c2⟩, -, -, -, -, -, -⟩, -, -⟩ := wk_ok hn hp
  refine e_X11_laysTrails hS ⟨⟨by omega, by omega⟩, fun x hx => ?_⟩
  rw [tn_cast, h147] at hx
  subst hx
  have main : ∀ (d k : Nat) (σ1 : StT), (wkW G p).length - k = d → k ≤ (wkW G p).length → mTk σ1 G p k → fr [125, 148, 149, 150, 151, 152, 153] σ σ1 → (∀ j, j ≠ 50 → σ1 125 j = σ 125 j) → AWs mX11_laysTrails 12 [(0, vR 125), (1, vI (p : Int)), (2, vI ((WA G p).length : Int)), (3, vI (if (tk G p k).2 = true then 1 else 0)), (4, vI (k : Int))] [] S σ1 Q := by
    intro d
    induction d with
    | zero =>
      intro k σ1 hd hk hm f1 b1
      have ek : k = (wkW G p).length := by omega
      subst ek
      refine t_X11_laysTrails_12 hS ?_
      rw [b1 40 (by decide), hw.1]
      refine ⟨fun _ => ⟨inR_s (by omega) (by omega), inR_s (by omega) (by omega), ⟨by omega, by omega⟩, ?_⟩, fun q => absurd (by omega) q⟩
      rw [show ((p : Int) + 1).toNat = p + 1 from rfl]
      have hm1 := hm.1
      rw [← tk_end, ← hsl] at hm1
      refine hQ _ (hm1.ext (by omega) (up2_a (by decide)) (fun b x1 x2 j => up2_a (by omega)) (fun j _ => up2_a (by decide))) (fun j hj => ?_) (by rw [up2_s, hsl]; omega) (fun q hq => by rw [up2_i hq]; exact f1 147 (by decide) q) ((f1.mono (by simp)).put (by simp)) (fun j hj => by rw [up2_a (by decide)]; exact b1 j hj)
      rw [up2_a (by decide)]; exact hm.2.2 j (by omega)
    | succ d ih =>
      intro k σ1 hd hk hm f1 b1
      have hk' : k < (wkW G p).length := by omega
      obtain ⟨cc1, cc2, -⟩ := c2 k hk'
      have e143 : σ1 143 k = wcd G ((wkW G p).getD k (0, 0)) := by rw [f1 143 (by decide)]; exact hw.2.1 k hk'
      have e144 : σ1 144 k = ((wkW G p).getD k (0, 0)).1 := by rw [f1 144 (by decide), cc1]; exact hw.2.2 k (by omega)
      have e144s : σ1 144 (k + 1) = oG G ((wkW G p).getD k (0, 0)) := by
        rw [f1 144 (by decide), hw.2.2 (k + 1) (by omega), cc2, ← cc1, oe_oG]
      have hat : (WA G (p + 1)).getD ((WA G p).length + k) (0, 0) = (wkW G p).getD k (0, 0) := WA_at
      obtain ⟨m1, m2, m3⟩ := hm
      have hstep := tk_s hk'
      have htl := okT_len (okT_k (G := G) (p := p) (k := k) (by omega))
      have hop := tk_op (G := G) (p := p) (k := k) (by omega)
      have hfl := TR_le hn hp (show k ≤ (wkW G p).length by omega)
      generalize hq : (wkW G p).getD k (0, 0) = q at e143 e144 e144s hat hstep
      have hwi := wcd_isS (G := G) (q := q)
      refine t_X11_laysTrails_12 hS ?_
      rw [b1 40 (by decide), hw.1, tn_cast, e143, e144, show (((WA G p).length : Int) + (k : Int)).toNat = (WA G p).length + k by omega, m1.1, tn_cast]
      refine ⟨fun q => absurd q (by omega), fun _ => ⟨inR_s (by omega) (by omega), ⟨by omega, by omega⟩, ⟨by omega, by omega⟩, ⟨by omega, by omega⟩, fun hs => ?_, fun hs => ?_⟩⟩
      · rw [hwi] at hs
        have hlt24 : (tk G p k).1.length < 24 := by
          have := (tk_nd hn hp hk' (by rw [hq]; exact hs)).2
          omega
        -- the row of ways
        have m3' : ∀ σ2 : StT, (∀ j, σ2 148 j = if j = (WA G p).length + k then wcd G q else σ1 148 j) → ∀ j, j < (WA G p).length + (k + 1) → σ2 148 j = wcd G ((WA G (p + 1)).getD j (0, 0)) := fun σ2 h2 j hj => by
          rw [h2]
          by_cases c : j = (WA G p).length + k
          · rw [if_pos c, c, hat]
          · rw [if_neg c]; exact m3 j (by omega)
        by_cases o : (tk G p k).2 = true
        · refine ⟨fun _ => ?_, fun c => absurd c (by rw [if_pos o]; decide)⟩
          rw [if_pos o]
          obtain ⟨T, l, e, hl0⟩ := hop o
          have e2 : tk G p (k + 1) = (T ++ [(p, l ++ [q])], true) := by
            rw [hstep]; unfold tstep; rw [if_pos hs, if_pos o, e, extT_sn]
          have hO := m2 o T (p, l) e
          rw [e] at m1 htl hfl hlt24
          have hfl2 : l.length ≤ (flat (T ++ [(p, l)])).length := by rw [flat_app, flat_one, List.length_append]; simp
          rw [List.length_append, List.length_singleton] at hlt24
          refine m_putT (T := T) (l := l) (q := q) (L := (WA G p).length + k) hS (m1.ext (Nat.le_refl _) (up2_a (by decide)) (fun b x1 x2 j => up2_a (by omega)) (fun j hj => up2_i (by omega))) (by rw [up2_a (by decide)]; exact hO) (by omega) (by omega) (by omega) (up2_s _ _ _ _) (fun c => absurd c hl0) (by rw [up2_a (by decide)]; exact e144s) ?_
          intro σ2 n1 n2 f2
          have := ih (k + 1) σ2 (by omega) (by omega) ⟨by rw [e2]; exact n1, fun _ T' a' he => ?_, m3' σ2 (fun j => ?_)⟩ ((f1.put (a := 148) (by simp)).trans (f2.mono (by simp))) (fun j hj => by rw [f2 125 (by decide), up2_a (by decide)]; exact b1 j hj)
          · rw [e2, if_pos rfl] at this; exact this
          · rw [e2] at he
            obtain ⟨r1, r2⟩ := List.append_inj' he rfl
            have r3 := (List.cons.inj r2).1
            subst r1; subst r3; exact n2
          · rw [f2 148 (by decide)]
            by_cases c : j = (WA G p).length + k
            · rw [if_pos c, c, up2_s]
            · rw [if_neg c, up2_i c]
        · refine ⟨fun c => absurd (if_neg o) c, fun _ => ⟨⟨by omega, by omega⟩, inR_s (by omega) (by omega), ⟨by omega, by omega⟩, ⟨by omega, by omega⟩, ⟨by omega, by omega⟩, ⟨by omega, by omega⟩, inR_s (by omega) (by omega), ?_⟩⟩
          have e2 : tk G p (k + 1) = ((tk G p k).1 ++ [(p, [q])], true) := by
            rw [hstep]; unfold tstep; rw [if_pos hs, if_neg o]
          have F : fr [125, 148, 149, 150, 151, 152, 153] σ1 (up2 (up2 (up2 (up2 (up2 (up2 σ1 148 ((WA G p).length + k) (wcd G q)) 149 (tk G p k).1.length (p : Int)) 150 (tk G p k).1.length (((WA G p).length : Int) + (k : Int))) 151 (tk G p k).1.length 0) 152 (tk G p k).1.length (q.1 : Int)) 125 50 (((tk G p k).1.length : Int) + 1)) := (((((fr.rf.put (by simp)).put (by simp)).put (by simp)).put (by simp)).put (by simp)).put (by simp)
          have k125 : ∀ j, (up2 (up2 (up2 (up2 (up2 (up2 σ1 148 ((WA G p).length + k) (wcd G q)) 149 (tk G p k).1.length (p : Int)) 150 (tk G p k).1.length (((WA G p).length : Int) + (k : Int))) 151 (tk G p k).1.length 0) 152 (tk G p k).1.length (q.1 : Int)) 125 50 (((tk G p k).1.length : Int) + 1)) 125 j = if j = 50 then (((tk G p k).1.length : Int) + 1) else σ1 125 j := fun j => by simp [up2]
          have k148 : ∀ j, (up2 (up2 (up2 (up2 (up2 (up2 σ1 148 ((WA G p).length + k) (wcd G q)) 149 (tk G p k).1.length (p : Int)) 150 (tk G p k).1.length (((WA G p).length : Int) + (k : Int))) 151 (tk G p k).1.length 0) 152 (tk G p k).1.length (q.1 : Int)) 125 50 (((tk G p k).1.length : Int) + 1)) 148 j = if j = (WA G p).length + k then wcd G q else σ1 148 j := fun j => by simp [up2]
          have k149 : ∀ j, (up2 (up2 (up2 (up2 (up2 (up2 σ1 148 ((WA G p).length + k) (wcd G q)) 149 (tk G p k).1.length (p : Int)) 150 (tk G p k).1.length (((WA G p).length : Int) + (k : Int))) 151 (tk G p k).1.length 0) 152 (tk G p k).1.length (q.1 : Int)) 125 50 (((tk G p k).1.length : Int) + 1)) 149 j = if j = (tk G p k).1.length then (p : Int) else σ1 149 j := fun j => by simp [up2]
          have k150 : ∀ j, (up2 (up2 (up2 (up2 (up2 (up2 σ1 148 ((WA G p).length + k) (wcd G q)) 149 (tk G p k).1.length (p : Int)) 150 (tk G p k).1.length (((WA G p).length : Int) + (k : Int))) 151 (tk G p k).1.length 0) 152 (tk G p k).1.length (q.1 : Int)) 125 50 (((tk G p k).1.length : Int) + 1)) 150 j = if j = (tk G p k).1.length then (((WA G p).length : Int) + (k : Int)) else σ1 150 j := fun j => by simp [up2]
          have k151 : ∀ j, (up2 (up2 (up2 (up2 (up2 (up2 σ1 148 ((WA G p).length + k) (wcd G q)) 149 (tk G p k).1.length (p : Int)) 150 (tk G p k).1.length (((WA G p).length : Int) + (k : Int))) 151 (tk G p k).1.length 0) 152 (tk G p k).1.length (q.1 : Int)) 125 50 (((tk G p k).1.length : Int) + 1)) 151 j = if j = (tk G p k).1.length then 0 else σ1 151 j := fun j => by simp [up2]
          have k152 : ∀ j, (up2 (up2 (up2 (up2 (up2 (up2 σ1 148 ((WA G p).length + k) (wcd G q)) 149 (tk G p k).1.length (p : Int)) 150 (tk G p k).1.length (((WA G p).length : Int) + (k : Int))) 151 (tk G p k).1.length 0) 152 (tk G p k).1.length (q.1 : Int)) 125 50 (((tk G p k).1.length : Int) + 1)) 152 j = if j = (tk G p k).1.length then (q.1 : Int) else σ1 152 j := fun j => by simp [up2]
          have k153 : ∀ j, (up2 (up2 (up2 (up2 (up2 (up2 σ1 148 ((WA G p).length + k) (wcd G q)) 149 (tk G p k).1.length (p : Int)) 150 (tk G p k).1.length (((WA G p).length : Int) + (k : Int))) 151 (tk G p k).1.length 0) 152 (tk G p k).1.length (q.1 : Int)) 125 50 (((tk G p k).1.length : Int) + 1)) 153 j = σ1 153 j := fun j => by simp [up2]
          generalize (up2 (up2 (up2 (up2 (up2 (up2 σ1 148 ((WA G p).length + k) (wcd G q)) 149 (tk G p k).1.length (p : Int)) 150 (tk G p k).1.length (((WA G p).length : Int) + (k : Int))) 151 (tk G p k).1.length 0) 152 (tk G p k).1.length (q.1 : Int)) 125 50 (((tk G p k).1.length : Int) + 1)) = σ2 at F k125 k148 k149 k150 k151 k152 k153
          refine m_putT (T := (tk G p k).1) (l := []) (q := q) (L := (WA G p).length + k) hS ⟨?_, fun T0 a T1 e => ?_⟩ (by rw [k150, if_pos rfl]; simp) hlt24 (by simp) (by omega) (by rw [k148, if_pos rfl]) (fun _ => by rw [k152, if_pos rfl]) (by rw [F 144 (by decide)]; exact e144s) ?_
          · rw [k125, if_pos rfl]; simp
          · rcases spl_sn e with ⟨rfl, rfl, rfl⟩ | ⟨U, rfl, ee⟩
            · exact ⟨by rw [k149, if_pos rfl], by rw [k151, if_pos rfl]; rfl, fun c => absurd rfl c, (WA G p).length + k, by rw [k150, if_pos rfl]; omega, by simp, fun j hj => absurd hj (by simp)⟩
            · have hlt : T0.length ≠ (tk G p k).1.length := by rw [ee]; simp
              exact (m1.2 T0 a U ee).ext (Nat.le_refl _) (by rw [k149, if_neg hlt]) (by rw [k151, if_neg hlt]) (by rw [k152, if_neg hlt]) (k153 _) (by rw [k150, if_neg hlt]) (fun j hj => by rw [k148, if_neg (by omega)])
          · intro σ3 n1 n2 f2
            have := ih (k + 1) σ3 (by omega) (by omega) ⟨by rw [e2]; exact n1, fun _ T' a' he => ?_, m3' σ3 (fun j => by rw [f2 148 (by decide), k148])⟩ (f1.trans (F.trans (f2.mono (by simp)))) (fun j hj => by rw [f2 125 (by decide), k125, if_neg hj]; exact b1 j hj)
            · rw [e2, if_pos rfl] at this; exact this
            · rw [e2] at he
              obtain ⟨r1, r2⟩ := List.append_inj' he rfl
              have r3 := (List.cons.inj r2).1
              subst r1; subst r3; exact n2
      · have hs' : ¬ isS q = true := fun c => hs (hwi.mpr c)
        have e2 : tk G p (k + 1) = ((tk G p k).1, false) := by
          rw [hstep]; unfold tstep; rw [if_neg hs']
        refine ⟨inR_s (by omega) (by omega), ?_⟩
        have := ih (k + 1) (up2 σ1 148 ((WA G p).length + k) (wcd G q)) (by omega) (by omega) ⟨?_, fun c => ?_, fun j hj => ?_⟩ (f1.put (by simp)) (fun j hj => by rw [up2_a (by decide)]; exact b1 j hj)
        · rw [e2, if_neg (by simp)] at this; exact this
        · rw [e2]
          exact m1.ext (by omega) (up2_a (by decide)) (fun b x1 x2 j => up2_a (by omega)) (fun j hj => up2_i (by omega))
        · rw [e2] at c; cases c
        · by_cases c : j = (WA G p).length + k
          · rw [c, up2_s, hat]
          · rw [up2_i c]; exact m3 j (by omega)
  have := main _ 0 σ rfl (by omega) ⟨by rw [tk_0]; exact hT, fun c => (by rw [tk_0] at c; cases c), fun j hj => ?_⟩ fr.rf (fun _ _ => rfl)
  · rw [tk_0] at this; exact this
  · rw [h148 j hj, (WA_pre (P := p + 1) (by omega) hj).1]
end MTRAIL
