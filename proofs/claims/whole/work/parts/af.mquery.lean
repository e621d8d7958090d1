/-! Model: distances, leaps, trails -/
def wQ (σ : StT) (D : Dw) (N : Nat) (f : Nat → Nat) : Prop := okE D N f ∧ eD (σ 127) D ∧ eP (σ 127) N f ∧ mZ σ (gG D)
theorem okE.N {D : Dw} {N : Nat} {f : Nat → Nat} (h : okE D N f) : N ≤ 24 := h.2.2.1
theorem okE.G {D : Dw} {N : Nat} {f : Nat → Nat} (h : okE D N f) : okG (gG D) := h.1.G h.1.2.2.1.1 h.1.2.2.1.2
theorem okE.H {D : Dw} {N : Nat} {f : Nat → Nat} (h : okE D N f) : okH (hm D) := by
  obtain ⟨a, b, c, d, e, -⟩ := h.1
  refine ⟨d.1, ?_, e.1, ?_⟩
  · show D.hx ≤ 200; omega
  · show D.hy ≤ 200; omega
theorem okE.T {D : Dw} {N : Nat} {f : Nat → Nat} (h : okE D N f) : okTr (gG D) (TT D) := okTr_TR h.1.1
theorem okE.le {D : Dw} {N : Nat} {f : Nat → Nat} (h : okE D N f) : (TT D).length ≤ 24 := Nat.le_trans h.T.le h.1.1
theorem mT1.at {σ : StT} {G : Geo} {T : Tr} {L t : Nat} (h : mTr σ G T L) (ht : t < T.length) : mT1 σ G t (tg T t) L := by
  obtain ⟨T0, T1, e, el⟩ := tg_spl ht
  have := h.2 T0 (tg T t) T1 e
  rw [el] at this; exact this
theorem lg_i {G : Geo} {H : Int × Int} {T : Tr} {N : Nat} {f : Nat → Nat} (hG : okG G) (hH : okH H) (i : Nat) : 0 ≤ lg G H T N f i ∧ lg G H T N f i ≤ 400 := apd_in hG hH _ _
theorem trv_i {G : Geo} {H : Int × Int} {T : Tr} {N : Nat} {f : Nat → Nat} (hG : okG G) (hH : okH H) (hN : N ≤ 24) : 0 ≤ trv G H T N f ∧ trv G H T N f ≤ 10000 := by
  unfold trv
  split
  · omega
  · have := si_in (fun i => lg_i (T := T) (N := N) (f := f) hG hH i) (N + 1)
    omega
section MQUERY
variable {S : ShT} {σ : StT} {Q : Int → StT → Prop} {D : Dw} {N : Nat} {f : Nat → Nat}
theorem wQ.n (h : wQ σ D N f) : (gG D).1 ≤ 24 := h.1.1.1
theorem wQ.rG (h : wQ σ D N f) : rG σ (gG D) := h.2.1.toG
theorem wQ.m (h : wQ σ D N f) {m : Nat} (hm : m < mcn (gG D)) : σ 132 m = fe (gG D) m := (h.2.2.2.1.2.2.2 m hm).1
theorem wQ.m48 (h : wQ σ D N f) : mcn (gG D) ≤ 48 := by have := mcn_le (gG D); have := h.n; omega
theorem m_mds {a b : Nat} (hS : SHP S) (h : wQ σ D N f) (ha : a < mcn (gG D)) (hb : b < mcn (gG D)) (hQ : Q (mds (gG D) a b) σ) : WPs mX11_far [vR 125, vI (a : Int), vI (b : Int)] S σ Q := by
  have := h.m48
  refine e_X11_far hS ?_
  rw [tn_cast, tn_cast, h.m ha, h.m hb]
  exact ⟨⟨by omega, by omega⟩, ⟨by omega, by omega⟩, m_apart hS h.rG h.1.G (fe_ok ha).1 (fe_ok hb).1 hQ⟩
theorem m_fromHome {a : Nat} (hS : SHP S) (h : wQ σ D N f) (ha : a < mcn (gG D)) (hQ : Q (apd (gG D) (hm D) (-1) a) σ) : WPs mX11_fromHome [vR 125, vI (a : Int)] S σ Q := by
  have h48 := h.m48
  have hn := h.n
  have e3 : σ 127 3 = D.hx := h.2.1.2.2.2.1
  have e4 : σ 127 4 = D.hy := h.2.1.2.2.2.2.1
  have hs := sXY_in h.1.G h.1.H (a : Int)
  have hh := sXY_in h.1.G h.1.H (-1)
  have ex : sX (gG D) (hm D) (a : Int) = (gG D).2.2.1 (fe (gG D) a) := by unfold sX; rw [if_neg (by omega), tn_cast]
  have ey : sY (gG D) (hm D) (a : Int) = (gG D).2.2.2 (fe (gG D) a) := by unfold sY; rw [if_neg (by omega), tn_cast]
  have hx : sX (gG D) (hm D) (-1) = D.hx := by unfold sX; rw [if_pos rfl]; rfl
  have hy : sY (gG D) (hm D) (-1) = D.hy := by unfold sY; rw [if_pos rfl]; rfl
  rw [apd_sym] at hQ
  unfold apd at hQ
  rw [ex, ey, hx, hy] at hQ
  rw [ex, ey] at hs
  rw [hx, hy] at hh
  refine e_X11_fromHome hS ?_
  rw [tn_cast, h.m ha]
  refine ⟨⟨by omega, by omega⟩, m_endX hS h.rG hn (fe_ok ha).1 ?_⟩
  rw [e3]
  refine ⟨inR_s (by omega) (by omega), m_abs hS (by omega) (by omega) ⟨⟨by omega, by omega⟩, ?_⟩⟩
  rw [h.m ha]
  refine m_endY hS h.rG hn (fe_ok ha).1 ?_
  rw [e4]
  refine ⟨inR_s (by omega) (by omega), m_abs hS (by omega) (by omega) ⟨?_, hQ⟩⟩
  unfold iab
  split <;> split <;> exact inR_s (by omega) (by omega)
theorem m_planned {i : Nat} (hS : SHP S) (h : wQ σ D N f) (hi : i < N) (hQ : Q ((f i / 2 : Nat) : Int) σ) : WPs mX11_planned [vR 125, vI (i : Int)] S σ Q := by
  have hN := h.1.N
  refine e_X11_planned hS ?_
  rw [show (104 + (i : Int)).toNat = 104 + i by omega, (h.2.2.1.2 i hi).1]
  exact ⟨inR_s (by omega) (by omega), ⟨by omega, by omega⟩, hQ⟩
theorem m_isTurned {i : Nat} (hS : SHP S) (h : wQ σ D N f) (hi : i < N) (hQ : Q (if f i % 2 = 1 then 1 else 0) σ) : WPs mX11_isTurned [vR 125, vI (i : Int)] S σ Q := by
  have hN := h.1.N
  refine e_X11_isTurned hS ?_
  rw [show (128 + (i : Int)).toNat = 128 + i by omega, (h.2.2.1.2 i hi).2]
  refine ⟨inR_s (by omega) (by omega), ⟨by omega, by omega⟩, fun q => ?_, fun q => ?_⟩
  · rw [if_neg (by omega)] at hQ; exact hQ
  · rw [if_pos (by omega)] at hQ; exact hQ
theorem wQ.be {t : Nat} (h : wQ σ D N f) (ht : t < (TT D).length) : σ 152 t = tB (TT D) t ∧ σ 153 t = tE (gG D) (TT D) t :=
  (mT1.at h.2.2.2.2.2.2.2 ht).2.2.1 (List.length_pos_iff.mp (h.1.T.pos ht))
theorem m_startAt {i : Nat} (hS : SHP S) (h : wQ σ D N f) (hi : i < N) (hQ : Q (bgC (gG D) (TT D) (f i) : Int) σ) : WPs mX11_startAt [vR 125, vI (i : Int)] S σ Q := by
  have ht := h.1.2.2.2 i hi
  have hl := h.1.le
  have hb := h.be ht
  refine e_X11_startAt hS (m_isTurned hS h hi ?_)
  unfold bgC at hQ
  by_cases c : f i % 2 = 1
  · rw [if_pos c] at hQ
    rw [if_pos c]
    refine ⟨fun q => absurd q (by decide), fun _ => m_planned hS h hi ⟨⟨by omega, by omega⟩, ?_⟩⟩
    rw [tn_cast, hb.2]; exact hQ
  · rw [if_neg c] at hQ
    rw [if_neg c]
    refine ⟨fun _ => m_planned hS h hi ⟨⟨by omega, by omega⟩, ?_⟩, fun q => absurd rfl q⟩
    rw [tn_cast, hb.1]; exact hQ
theorem m_endAt {i : Nat} (hS : SHP S) (h : wQ σ D N f) (hi : i < N) (hQ : Q (enC (gG D) (TT D) (f i) : Int) σ) : WPs mX11_endAt [vR 125, vI (i : Int)] S σ Q := by
  have ht := h.1.2.2.2 i hi
  have hl := h.1.le
  have hb := h.be ht
  refine e_X11_endAt hS (m_isTurned hS h hi ?_)
  unfold enC at hQ
  by_cases c : f i % 2 = 1
  · rw [if_pos c] at hQ
    rw [if_pos c]
    refine ⟨fun q => absurd q (by decide), fun _ => m_planned hS h hi ⟨⟨by omega, by omega⟩, ?_⟩⟩
    rw [tn_cast, hb.1]; exact hQ
  · rw [if_neg c] at hQ
    rw [if_neg c]
    refine ⟨fun _ => m_planned hS h hi ⟨⟨by omega, by omega⟩, ?_⟩, fun q => absurd rfl q⟩
    rw [tn_cast, hb.2]; exact hQ
theorem okE.bc {D : Dw} {N : Nat} {f : Nat → Nat} {i : Nat} (h : okE D N f) (hi : i < N) : bgC (gG D) (TT D) (f i) < mcn (gG D) ∧ enC (gG D) (TT D) (f i) < mcn (gG D) := by
  have ht := h.2.2.2 i hi
  obtain ⟨a, b⟩ := h.T.be h.1.1 ht
  unfold bgC enC
  constructor <;> split <;> assumption
theorem m_leap {i : Nat} (hS : SHP S) (h : wQ σ D N f) (hi : i ≤ N) (hQ : Q (if N = 0 then 0 else lg (gG D) (hm D) (TT D) N f i) σ) : WPs mX11_leap [vR 125, vI (i : Int)] S σ Q := by
  have hN := h.1.N
  refine e_X11_leap hS ?_
  rw [h.2.2.1.1]
  refine ⟨fun q => ?_, fun q => by rw [if_pos (by omega)] at hQ; exact hQ⟩
  rw [if_neg (by omega)] at hQ
  unfold lg spA spB at hQ
  refine ⟨fun q1 => ⟨fun q2 => ⟨inR_s (by omega) (by omega), ?_⟩, fun q2 => ⟨inR_s (by omega) (by omega), ?_⟩⟩, fun q1 => ?_⟩
  · rw [if_neg (by omega), if_pos (by omega), apd_mds] at hQ
    rw [show (i : Int) - 1 = ((i - 1 : Nat) : Int) by omega]
    exact m_endAt hS h (by omega) (m_startAt hS h (by omega) (m_mds hS h (h.1.bc (by omega)).2 (h.1.bc (by omega)).1 hQ))
  · rw [if_neg (by omega), if_neg (by omega), apd_sym] at hQ
    rw [show (i : Int) - 1 = ((i - 1 : Nat) : Int) by omega]
    exact m_endAt hS h (by omega) (m_fromHome hS h (h.1.bc (by omega)).2 hQ)
  · have e : i = 0 := by omega
    subst e
    rw [if_pos rfl, if_pos (by omega)] at hQ
    exact m_startAt (i := 0) hS h (by omega) (m_fromHome hS h (h.1.bc (by omega)).1 hQ)
theorem m_leaps (hS : SHP S) (h : wQ σ D N f) (hQ : Q (trv (gG D) (hm D) (TT D) N f) σ) : WPs mX11_leaps [vR 125] S σ Q := by
  have hN := h.1.N
  have key : ∀ k : Nat, si (fun i => if N = 0 then 0 else lg (gG D) (hm D) (TT D) N f i) k = if N = 0 then 0 else si (lg (gG D) (hm D) (TT D) N f) k := fun k => by
    by_cases c : N = 0
    · simp only [if_pos c]
      induction k with
      | zero => rfl
      | succ k ih => show si _ k + 0 = 0; rw [ih]; rfl
    · simp only [if_neg c]
  have lin : ∀ i, 0 ≤ (if N = 0 then 0 else lg (gG D) (hm D) (TT D) N f i) ∧ (if N = 0 then 0 else lg (gG D) (hm D) (TT D) N f i) ≤ 400 := fun i => by
    have := lg_i (T := TT D) (N := N) (f := f) h.1.G h.1.H i
    split <;> omega
  refine e_X11_leaps hS ?_
  refine lupg (α := Int) (I := fun i x => 0 ≤ i ∧ i ≤ (N : Int) + 1 ∧ x = si (fun i => if N = 0 then 0 else lg (gG D) (hm D) (TT D) N f i) i.toNat) (W := fun i x => AWs mX11_leaps 4 [(0, vR 125), (1, vI x), (2, vI i)] [] S σ Q) ((N : Int) + 1) ?_ ?_ 0 0 ⟨by omega, by omega, rfl⟩
  · rintro i x ⟨i0, i1, rfl⟩ hge
    have ei : i = ((N + 1 : Nat) : Int) := by omega
    subst ei
    refine t_X11_leaps_4 hS ?_
    rw [h.2.2.1.1, tn_cast, key]
    exact ⟨fun _ => hQ, fun q => absurd (by omega) q⟩
  · rintro i x ⟨i0, i1, rfl⟩ hlt kk
    obtain ⟨i, rfl⟩ := nat_of i0
    refine t_X11_leaps_4 hS ?_
    rw [h.2.2.1.1, tn_cast]
    refine ⟨fun q => absurd q (by omega), fun _ => m_leap hS h (by omega) ?_⟩
    have b1 := si_in lin i
    have b2 := lin i
    exact ⟨inR_s (by omega) (by omega), inR_s (by omega) (by omega), kk _ ⟨by omega, by omega, rfl⟩⟩
theorem wQ.t {t : Nat} (h : wQ σ D N f) (ht : t < (TT D).length) : σ 149 t = (tg (TT D) t).1 ∧ σ 151 t = (tg (TT D) t).2.length ∧ (tg (TT D) t).2.length ≤ 24 ∧ ∃ off : Nat, σ 150 t = off ∧ off + (tg (TT D) t).2.length ≤ 48 ∧ ∀ k, k < (tg (TT D) t).2.length → σ 148 (off + k) = wcd (gG D) ((tg (TT D) t).2.getD k (0, 0)) := by
  have hM : mT1 σ (gG D) t (tg (TT D) t) (WA (gG D) (pcn (gG D))).length := mT1.at h.2.2.2.2.2.2.2 ht
  obtain ⟨a1, a2, a3, off, a4, a5, a6⟩ := hM
  have hl := WA_len (G := gG D) (P := pcn (gG D)) h.n (by omega)
  refine ⟨a1, a2, ?_, off, a4, by omega, a6⟩
  obtain ⟨T0, T1, e, el⟩ := tg_spl ht
  have h1 := h.1.T.2.2.1
  have h2 : (flat (TT D)).length = (flat T0).length + ((tg (TT D) t).2.length + (flat T1).length) := by
    have : flat (TT D) = flat (T0 ++ tg (TT D) t :: T1) := by rw [← e]
    rw [this, flat_app, flat_cons, List.length_append, List.length_append]
  have := h.n
  omega
theorem m_longOf {t : Nat} (hS : SHP S) (h : wQ σ D N f) (ht : t < (TT D).length) (hQ : Q (tL (gG D) (tg (TT D) t).2) σ) : WPs mX11_longOf [vR 125, vI (t : Int)] S σ Q := by
  have hl := h.1.le
  have hn := h.n
  obtain ⟨a1, a2, a3, off, a4, a5, a6⟩ := h.t ht
  refine e_X11_longOf hS ?_
  refine lupg (α := Int) (I := fun i x => 0 ≤ i ∧ i ≤ ((tg (TT D) t).2.length : Int) ∧ x = tL (gG D) ((tg (TT D) t).2.take i.toNat)) (W := fun i x => AWs mX11_longOf 4 [(0, vR 125), (1, vI (t : Int)), (2, vI x), (3, vI i)] [] S σ Q) ((tg (TT D) t).2.length : Int) ?_ ?_ 0 0 ⟨by omega, by omega, rfl⟩
  · rintro i x ⟨i0, i1, rfl⟩ hge
    have ei : i = ((tg (TT D) t).2.length : Int) := by omega
    subst ei
    refine t_X11_longOf_4 hS ?_
    rw [tn_cast, a2, tn_cast, List.take_length]
    exact ⟨⟨by omega, by omega⟩, fun _ => hQ, fun q => absurd (by omega) q⟩
  · rintro i x ⟨i0, i1, rfl⟩ hlt kk
    obtain ⟨i, rfl⟩ := nat_of i0
    have hi : i < (tg (TT D) t).2.length := by omega
    obtain ⟨w, w1, w2, w3⟩ := h.1.T.w hn ht hi
    refine t_X11_longOf_4 hS ?_
    rw [tn_cast, a2, a4, tn_cast, show ((off : Int) + (i : Int)).toNat = off + i by omega, a6 i hi, w1]
    refine ⟨⟨by omega, by omega⟩, fun q => absurd q (by omega), fun _ => ⟨⟨by omega, by omega⟩, inR_s (by omega) (by omega), ⟨by omega, by omega⟩, by omega, fun x hx => ?_⟩⟩
    have hx' : x = (((tg (TT D) t).2.getD i (0, 0)).2 : Int) := by omega
    have hs : ((tg (TT D) t).2.getD i (0, 0)).2 < (gG D).1 := by omega
    have b1 := tL_in h.1.G ((tg (TT D) t).2.take i)
    have b2 := sl_in h.1.G ((tg (TT D) t).2.getD i (0, 0)).2
    have b3 : ((tg (TT D) t).2.take i).length ≤ i := List.length_take_le _ _
    subst hx'
    refine ⟨inR_s (by omega) (by omega), inR_s (by omega) (by omega), inR_s (by omega) (by omega), ?_⟩
    have e4 : ds (gG D) (2 * ((tg (TT D) t).2.getD i (0, 0)).2) (2 * ((tg (TT D) t).2.getD i (0, 0)).2 + 1) = sl (gG D) ((tg (TT D) t).2.getD i (0, 0)).2 := rfl
    have := m_apart (σ := σ) (G := gG D) (a := 2 * ((tg (TT D) t).2.getD i (0, 0)).2) (b := 2 * ((tg (TT D) t).2.getD i (0, 0)).2 + 1) (Q := fun r43 s43 => inR (tL (gG D) ((tg (TT D) t).2.take i) + r43) ∧ inR ((i : Int) + 1) ∧ AWs mX11_longOf 4 [(0, vR 125), (1, vI (t : Int)), (2, vI (tL (gG D) ((tg (TT D) t).2.take i) + r43)), (3, vI ((i : Int) + 1))] [] S s43 Q) hS h.rG h.1.G (by omega) (by omega) ⟨inR_s (by omega) (by omega), inR_s (by omega) (by omega), kk _ ⟨by omega, by omega, ?_⟩⟩
    · exact this
    · rw [show ((i : Int) + 1).toNat = i + 1 from rfl, take_sn (d := (0, 0)) hi, tL_sn]; rfl
theorem m_rideAt {i k : Nat} (hS : SHP S) (h : wQ σ D N f) (hi : i < N) (hk : k < (tg (TT D) (f i / 2)).2.length) (hQ : Q (rdN (gG D) (TT D) (f i) k : Int) σ) : WPs mX11_rideAt [vR 125, vI (i : Int), vI (k : Int)] S σ Q := by
  have ht := h.1.2.2.2 i hi
  have hl := h.1.le
  have hn := h.n
  obtain ⟨a1, a2, a3, off, a4, a5, a6⟩ := h.t ht
  refine e_X11_rideAt hS (m_planned hS h hi (m_isTurned hS h hi ?_))
  rw [tn_cast, a2, a4]
  unfold rdN at hQ
  by_cases c : f i % 2 = 1
  · rw [if_pos c] at hQ
    rw [if_pos c]
    refine ⟨fun _ => ⟨⟨by omega, by omega⟩, ⟨by omega, by omega⟩, inR_s (by omega) (by omega), inR_s (by omega) (by omega), inR_s (by omega) (by omega), ⟨by omega, by omega⟩, fun x hx => ?_⟩, fun q => absurd q (by decide)⟩
    rw [show ((off : Int) + ((tg (TT D) (f i / 2)).2.length : Int) - 1 - (k : Int)).toNat = off + ((tg (TT D) (f i / 2)).2.length - 1 - k) by omega, a6 _ (by omega)] at hx
    obtain ⟨w, w1, w2, w3⟩ := h.1.T.w hn ht (show (tg (TT D) (f i / 2)).2.length - 1 - k < _ by omega)
    rw [w1] at hx hQ
    subst hx
    rw [tn_cast] at hQ
    unfold xr at hQ
    refine ⟨by omega, fun q => ⟨inR_s (by omega) (by omega), ?_⟩, fun q => ⟨inR_s (by omega) (by omega), ?_⟩⟩
    · rw [if_neg (by omega)] at hQ
      rw [show (w : Int) - 1 = ((w - 1 : Nat) : Int) by omega]; exact hQ
    · rw [if_pos (by omega)] at hQ; exact hQ
  · rw [if_neg c] at hQ
    rw [if_neg c]
    refine ⟨fun q => absurd rfl q, fun _ => ⟨⟨by omega, by omega⟩, inR_s (by omega) (by omega), ⟨by omega, by omega⟩, ?_⟩⟩
    rw [show ((off : Int) + (k : Int)).toNat = off + k by omega, a6 k hk]
    obtain ⟨w, w1, w2, w3⟩ := h.1.T.w hn ht hk
    rw [w1, tn_cast] at hQ
    rw [w1]; exact hQ
end MQUERY
