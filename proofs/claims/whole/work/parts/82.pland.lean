/-! Plan: rows that change; the rest of what it answers -/
theorem isP_lt {p : Nat} (h : isP p) : 51 ≤ p ∧ p ≤ 122 := by unfold isP at h; omega
theorem iXor_x {x : Nat} (h : x < 128) : iXor (x : Int) 1 = (xr x : Int) := by
  rw [iXor_1 x h]; unfold xr; split <;> rfl
theorem pl.ext {σ σ' : StT} {p N : Nat} {f : Nat → Nat} (h : pl σ p N f) (h0 : σ' p 4 = σ p 4) (h1 : ∀ j, σ' (p + 1) j = σ (p + 1) j) : pl σ' p N f := ⟨h0.trans h.1, fun i hi => (h1 i).trans (h.2 i hi)⟩
theorem okF.c {T : Tr} {N i : Nat} {f : Nat → Nat} (h : okF T N f) (hT : T.length ≤ 24) (hi : i < N) : f i < 48 := by have := h.2 i hi; omega
theorem okF.rv {T : Tr} {N i k : Nat} {f : Nat → Nat} (h : okF T N f) (hk : k < N) : okF T N (rvs i k f) := ⟨h.1, fun j hj => by
  unfold rvs
  split
  · rw [xr_h]; exact h.2 _ (by omega)
  · exact h.2 j hj⟩
/-- the k-th stroke as it is ridden -/
noncomputable def rdN (G : Geo) (T : Tr) (c k : Nat) : Nat := if c % 2 = 1 then xr (wcd G ((tg T (c / 2)).2.getD ((tg T (c / 2)).2.length - 1 - k) (0, 0))).toNat else (wcd G ((tg T (c / 2)).2.getD k (0, 0))).toNat
section PLAND
variable {S : ShT} {σ : StT} {p : Nat} {Q : Int → StT → Prop} {G : Geo} {H : Int × Int} {T : Tr} {N : Nat} {f : Nat → Nat}
theorem sp_start (hS : SHP S) (hp : isP p) (h9 : σ 40 9 = T.length) (hT : T.length ≤ 24) (hQ : ∀ σ' : StT, pl σ' p T.length (fun i => 2 * i) → fr [p, p + 1] σ σ' → Q 0 σ') : WPs mX5_start [vR p] S σ Q := by
  refine e_X5_start hS hp ?_
  rw [h9]
  refine lup (I := fun i σ' => 0 ≤ i ∧ i ≤ (T.length : Int) ∧ fr [p, p + 1] σ σ' ∧ σ' p 4 = T.length ∧ ∀ j : Nat, (j : Int) < i → σ' (p + 1) j = ((2 * j : Nat) : Int)) (W := fun i σ' => AWs mX5_start 13 [(0, vR p), (1, vI i)] [] S σ' Q) (T.length : Int) ?_ ?_ 0 _ ⟨by omega, by omega, fr.rf.put (by simp), up2_s _ _ _ _, fun j hj => by omega⟩
  · rintro i σ1 ⟨i0, i1, i2, i3, i4⟩ hge
    refine t_X5_start_13 hS hp ?_
    rw [i3]
    exact ⟨fun _ => hQ σ1 ⟨i3, fun j hj => i4 j (by omega)⟩ i2, fun q => absurd hge q⟩
  · rintro i σ1 ⟨i0, i1, i2, i3, i4⟩ hlt kk
    obtain ⟨i, rfl⟩ := nat_of i0
    refine t_X5_start_13 hS hp ?_
    rw [i3, tn_cast]
    refine ⟨fun q => absurd q (by omega), fun _ => ⟨inR_s (by omega) (by omega), ⟨by omega, by omega⟩, inR_s (by omega) (by omega), kk _ ⟨by omega, by omega, i2.put (by simp), by rw [up2_a (by omega)]; exact i3, fun j hj => ?_⟩⟩⟩
    by_cases e : j = i
    · subst e; rw [up2_s]; omega
    · rw [up2_i e]; exact i4 j (by omega)
theorem sp_pcopy {q : Nat} (hS : SHP S) (hp : isP p) (hq : isP q) (hne : p + 1 < q ∨ q + 1 < p) (hf : pl σ q N f) (hN : N ≤ 24) (hQ : ∀ σ' : StT, pl σ' p N f → fr [p, p + 1] σ σ' → Q 0 σ') : WPs mX5_copy [vR p, vR q] S σ Q := by
  refine e_X5_copy hS hp hq hne ?_
  rw [hf.1]
  refine lup (I := fun i σ' => 0 ≤ i ∧ i ≤ (N : Int) ∧ fr [p, p + 1] σ σ' ∧ σ' p 4 = N ∧ ∀ j : Nat, (j : Int) < i → σ' (p + 1) j = f j) (W := fun i σ' => AWs mX5_copy 10 [(0, vR p), (1, vR q), (2, vI i)] [] S σ' Q) (N : Int) ?_ ?_ 0 _ ⟨by omega, by omega, fr.rf.put (by simp), up2_s _ _ _ _, fun j hj => by omega⟩
  · rintro i σ1 ⟨i0, i1, i2, i3, i4⟩ hge
    refine t_X5_copy_10 hS hp hq hne ?_
    rw [i3]
    exact ⟨fun _ => hQ σ1 ⟨i3, fun j hj => i4 j (by omega)⟩ i2, fun q => absurd hge q⟩
  · rintro i σ1 ⟨i0, i1, i2, i3, i4⟩ hlt kk
    obtain ⟨i, rfl⟩ := nat_of i0
    refine t_X5_copy_10 hS hp hq hne ?_
    have eq1 : σ1 (q + 1) i = f i := by rw [i2 (q + 1) (by simp; omega)]; exact hf.2 i (by omega)
    rw [i3, tn_cast, eq1]
    refine ⟨fun q => absurd q (by omega), fun _ => ⟨⟨by omega, by omega⟩, ⟨by omega, by omega⟩, inR_s (by omega) (by omega), kk _ ⟨by omega, by omega, i2.put (by simp), by rw [up2_a (by omega)]; exact i3, fun j hj => ?_⟩⟩⟩
    by_cases e : j = i
    · subst e; rw [up2_s]
    · rw [up2_i e]; exact i4 j (by omega)
theorem sp_strokeOf {t k : Nat} (hS : SHP S) (h : wP σ G H T) (ht : t < T.length) (hk : k < (tg T t).2.length) (hQ : Q (wcd G ((tg T t).2.getD k (0, 0))) σ) : WPs mX8_strokeOf [vR 40, vI (t : Int), vI (k : Int)] S σ Q := by
  have hle := h.le
  have hn := h.n
  have hfl := h.2.2.2.2.2.2.2.1
  obtain ⟨off, o1, -, -, -, -, a5, a6⟩ := h.2.2.2.2.1.at ht
  refine e_X8_strokeOf hS ?_
  rw [tn_cast, a5, show ((off : Int) + (k : Int)).toNat = off + k by omega, (a6 k hk).1]
  exact ⟨⟨by omega, by omega⟩, inR_s (by omega) (by omega), ⟨by omega, by omega⟩, hQ⟩
theorem okTr.w {t k : Nat} (hn : G.1 ≤ 24) (h : okTr G T) (ht : t < T.length) (hk : k < (tg T t).2.length) : ∃ w : Nat, wcd G ((tg T t).2.getD k (0, 0)) = w ∧ w / 2 = ((tg T t).2.getD k (0, 0)).2 ∧ w < 2 * G.1 := by
  obtain ⟨w, w', w1, w2, w3, -⟩ := stp_w hn (h.2.1 _ (tg_flat ht hk))
  exact ⟨w, w1, w2, w3⟩
theorem sp_strokeAt {i k : Nat} (hS : SHP S) (hp : isP p) (h : wP σ G H T) (hf : pl σ p N f) (ho : okF T N f) (hi : i < N) (hk : k < (tg T (f i / 2)).2.length) (hQ : Q (rdN G T (f i) k : Int) σ) : WPs mX5_strokeAt [vR p, vI (i : Int), vI (k : Int)] S σ Q := by
  have ht := ho.2 i hi
  have hn := h.n
  have hle := h.le
  have hfl := h.2.2.2.2.2.2.2.1
  obtain ⟨off, o1, -, a2, -⟩ := h.2.2.2.2.1.at ht
  refine e_X5_strokeAt hS hp (sp_trailAt hS hp hf ho.1 hi (sp_isBackwards hS hp hf ho.1 hi ⟨fun q => ?_, fun q => ?_⟩))
  · refine sp_strokeOf hS h ht hk ?_
    obtain ⟨w, w1, -⟩ := okTr.w hn h.2.2.2.2.2 ht hk
    unfold rdN at hQ
    by_cases c : f i % 2 = 1
    · rw [if_pos c] at q; omega
    · rw [if_neg c, w1, tn_cast] at hQ; rw [w1]; exact hQ
  · have hk2 : (tg T (f i / 2)).2.length - 1 - k < (tg T (f i / 2)).2.length := by omega
    rw [tn_cast, a2]
    refine ⟨⟨by omega, by omega⟩, inR_s (by omega) (by omega), inR_s (by omega) (by omega), ?_⟩
    rw [show ((tg T (f i / 2)).2.length : Int) - 1 - (k : Int) = (((tg T (f i / 2)).2.length - 1 - k : Nat) : Int) by omega]
    refine sp_strokeOf hS h ht hk2 ?_
    obtain ⟨w, w1, -, w3⟩ := okTr.w hn h.2.2.2.2.2 ht hk2
    unfold rdN at hQ
    by_cases c : f i % 2 = 1
    · rw [if_pos c, w1, tn_cast] at hQ; rw [w1, iXor_x (by omega)]; exact hQ
    · rw [if_neg c] at q; exact absurd rfl q
theorem rdN_ok {c k : Nat} (hn : G.1 ≤ 24) (h : okTr G T) (hc : c / 2 < T.length) (hk : k < (tg T (c / 2)).2.length) : rdN G T c k / 2 < G.1 ∧ rdN G T c k / 2 = ((tg T (c / 2)).2.getD (if c % 2 = 1 then (tg T (c / 2)).2.length - 1 - k else k) (0, 0)).2 := by
  unfold rdN
  by_cases e : c % 2 = 1
  · rw [if_pos e, if_pos e]
    obtain ⟨w, w1, w2, w3⟩ := okTr.w hn h hc (k := (tg T (c / 2)).2.length - 1 - k) (by omega)
    rw [w1, tn_cast, xr_h, w2]; exact ⟨by omega, rfl⟩
  · rw [if_neg e, if_neg e]
    obtain ⟨w, w1, w2, w3⟩ := okTr.w hn h hc hk
    rw [w1, tn_cast, w2]; exact ⟨by omega, rfl⟩
/-- the first place of a trail -/
def plc (N : Nat) (f : Nat → Nat) (t : Nat) : Int := match fst1 (fun i => decide (f i / 2 = t)) N with
  | none => -1
  | some i => i
theorem sp_placeOf {t : Nat} (hS : SHP S) (hp : isP p) (hf : pl σ p N f) (hN : N ≤ 24) (hQ : Q (plc N f t) σ) : WPs mX5_placeOf [vR p, vI (t : Int)] S σ Q := by
  refine e_X5_placeOf hS hp ?_
  refine lup (I := fun i σ' => 0 ≤ i ∧ i ≤ (N : Int) ∧ σ' = σ ∧ ∀ y : Nat, (y : Int) < i → f y / 2 ≠ t) (W := fun i σ' => AWs mX5_placeOf 2 [(0, vR p), (1, vI (t : Int)), (2, vI i)] [] S σ' Q) (N : Int) ?_ ?_ 0 σ ⟨by omega, by omega, rfl, fun y hy => by omega⟩
  · rintro i σ1 ⟨i0, i1, rfl, i2⟩ hge
    refine t_X5_placeOf_2 hS hp ?_
    rw [hf.1]
    refine ⟨fun _ => ?_, fun q => absurd hge q⟩
    unfold plc at hQ
    rw [fst1_no (fun y hy => by simpa using i2 y (by omega))] at hQ; exact hQ
  · rintro i σ1 ⟨i0, i1, rfl, i2⟩ hlt kk
    obtain ⟨i, rfl⟩ := nat_of i0
    refine t_X5_placeOf_2 hS hp ?_
    rw [hf.1]
    refine ⟨fun q => absurd q (by omega), fun _ => sp_trailAt hS hp hf hN (by omega) ⟨fun q => ⟨inR_s (by omega) (by omega), kk σ1 ⟨by omega, by omega, rfl, fun y hy => ?_⟩⟩, fun q => ?_⟩⟩
    · by_cases e : y = i
      · subst e; omega
      · exact i2 y (by omega)
    · unfold plc at hQ
      rw [fst1_is (x := i) (by omega) (by simp; omega) (fun y hy => by simpa using i2 y (by omega))] at hQ; exact hQ
theorem sp_turnRun {i k : Nat} (hS : SHP S) (hp : isP p) (hf : pl σ p N f) (ho : okF T N f) (hT : T.length ≤ 24) (hik : i ≤ k) (hk : k < N) (hQ : ∀ σ' : StT, pl σ' p N (rvs i k f) → fr [p + 1] σ σ' → Q 0 σ') : WPs mX5_turnRun [vR p, vI (i : Int), vI (k : Int)] S σ Q := by
  have hN := ho.1
  refine e_X5_turnRun hS hp ?_
  have key : ∀ (r j : Nat) (σ1 : StT), r + 2 * j = k + 1 - i → fr [p + 1] σ σ1 → (∀ x, x < N → σ1 (p + 1) x = if (i ≤ x ∧ x < i + j) ∨ (k < x + j ∧ x ≤ k) then (rvs i k f x : Int) else (f x : Int)) → AWs mX5_turnRun 5 [(0, vR p), (3, vI ((i + j : Nat) : Int)), (4, vI ((k : Int) - j))] [] S σ1 Q := by
    intro r
    induction r using Nat.strongRecOn with
    | ind r ih =>
      intro j σ1 hr F h1
      refine t_X5_turnRun_5 hS hp ⟨fun q => ?_, fun q => ?_⟩
      · refine hQ σ1 ⟨by rw [F p (by simp)]; exact hf.1, fun x hx => ?_⟩ F
        rw [h1 x hx]
        by_cases c : (i ≤ x ∧ x < i + j) ∨ (k < x + j ∧ x ≤ k)
        · rw [if_pos c]
        · rw [if_neg c]; unfold rvs; rw [if_neg (by omega)]
      · have e3 : σ1 (p + 1) (i + j) = f (i + j) := by rw [h1 _ (by omega), if_neg (by omega)]
        have e4 : σ1 (p + 1) (k - j) = f (k - j) := by rw [h1 _ (by omega), if_neg (by omega)]
        have b3 := ho.c hT (i := i + j) (by omega)
        have b4 := ho.c hT (i := k - j) (by omega)
        rw [tn_cast, show ((k : Int) - (j : Int)).toNat = k - j by omega, e3, e4, iXor_x (by omega), iXor_x (by omega)]
        refine ⟨⟨by omega, by omega⟩, fun x hx => ⟨⟨by omega, by omega⟩, ⟨by omega, by omega⟩, ⟨by omega, by omega⟩, inR_s (by omega) (by omega), inR_s (by omega) (by omega), ?_⟩⟩
        subst hx
        rw [show ((i + j : Nat) : Int) + 1 = ((i + (j + 1) : Nat) : Int) by omega, show (k : Int) - (j : Int) + -1 = (k : Int) - ((j + 1 : Nat) : Int) by omega]
        by_cases one : r = 1
        · -- the middle one
          have em : k - j = i + j := by omega
          have := fun x (hx : x < N) => h1 x hx
          refine t_X5_turnRun_5 hS hp ⟨fun _ => ?_, fun q => absurd (show (k : Int) - ((j + 1 : Nat) : Int) < ((i + (j + 1) : Nat) : Int) by omega) q⟩
          refine hQ _ ⟨by rw [up2_a (by omega), up2_a (by omega), F p (by simp)]; exact hf.1, fun x hx => ?_⟩ ((F.put (by simp)).put (by simp))
          rw [em]
          by_cases c : x = i + j
          · subst c; rw [up2_s]; unfold rvs; rw [if_pos (by omega), show i + k - (i + j) = i + j by omega]
          · rw [up2_i c, up2_i c, h1 x hx]
            by_cases d : (i ≤ x ∧ x < i + j) ∨ (k < x + j ∧ x ≤ k)
            · rw [if_pos d]
            · rw [if_neg d]; unfold rvs; rw [if_neg (by omega)]
        · refine ih (r - 2) (by omega) (j + 1) _ (by omega) ((F.put (by simp)).put (by simp)) (fun x hx => ?_)
          by_cases c : x = k - j
          · subst c; rw [up2_s, if_pos (by omega)]; unfold rvs; rw [if_pos (by omega), show i + k - (k - j) = i + j by omega]
          · rw [up2_i c]
            by_cases c2 : x = i + j
            · subst c2; rw [up2_s, if_pos (by omega)]; unfold rvs; rw [if_pos (by omega), show i + k - (i + j) = k - j by omega]
            · rw [up2_i c2, h1 x hx]
              by_cases d : (i ≤ x ∧ x < i + j) ∨ (k < x + j ∧ x ≤ k)
              · rw [if_pos d, if_pos (by omega)]
              · rw [if_neg d, if_neg (by omega)]
  have := key (k + 1 - i) 0 σ (by omega) fr.rf (fun x hx => by rw [if_neg (by omega)]; exact hf.2 x hx)
  simpa using this
end PLAND
