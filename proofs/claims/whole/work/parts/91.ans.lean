/-! the state of a run of calls, and what each call answers -/
def Ms : Type := (Nat × (Nat → Int)) × (Bool × Dw × Nat × (Nat → Nat)) × Hs × (Int × Int × Int)
def Ms.tl (M : Ms) : Nat := M.1.1
def Ms.tb (M : Ms) : Nat → Int := M.1.2
def Ms.dr (M : Ms) : Bool := M.2.1.1
def Ms.D (M : Ms) : Dw := M.2.1.2.1
def Ms.N (M : Ms) : Nat := M.2.1.2.2.1
def Ms.f (M : Ms) : Nat → Nat := M.2.1.2.2.2
def Ms.L (M : Ms) : Hs := M.2.2.1
def Ms.tr (M : Ms) : Int := M.2.2.2.1
def Ms.fa (M : Ms) : Int := M.2.2.2.2.1
def Ms.wh (M : Ms) : Int := M.2.2.2.2.2
def Ms.g (M : Ms) : Geo := gG M.D
noncomputable def Ms.T (M : Ms) : Tr := TT M.D
/-- trouble anew -/
def Ms.t (M : Ms) (k : Int) : Ms := (M.1, M.2.1, M.2.2.1, k, M.fa, M.wh)
def tld (M : Ms) (v : Int) : Int × Ms := (v, M.t 0)
def rfs (M : Ms) (k : Int) : Int × Ms := (-1, M.t k)
def rfx (M : Ms) (k : Int) : Int × Ms := (-2147483648, M.t k)
/-- another drawing with its plan, what was kept -/
def Ms.w (M : Ms) (D : Dw) (N : Nat) (f : Nat → Nat) (L : Hs) : Ms := (M.1, (true, D, N, f), L, 0, M.fa, M.wh)
def Ms.k (M : Ms) : Hs := hk1 M.L M.D M.N M.f
def okM (M : Ms) : Prop := M.tl ≤ 700 ∧ (M.dr = true → okE M.D M.N M.f) ∧ (∀ i, i < M.L.length → okE (hg M.L i).1 (hg M.L i).2.1 (hg M.L i).2.2) ∧ M.L.length ≤ 10 ∧ (M.dr = false → M.L = []) ∧ (M.tr = 0 ∨ M.tr = 1 ∨ M.tr = 2 ∨ M.tr = 3 ∨ M.tr = 4 ∨ M.tr = 5)
/-- the word of five in which a byte lies, and the byte -/
def by5 (a b c d e : Int) (x : Nat) : Int := iAnd (iShr (if x / 4 = 0 then a else if x / 4 = 1 then b else if x / 4 = 2 then c else if x / 4 = 3 then d else e) (24 - 8 * ((x % 4 : Nat) : Int))) 255
def A_feed (M : Ms) (a b c d e : Int) : Int × Ms := if 680 < M.tl then (-1, M) else (((M.tl + 20 : Nat) : Int), ((M.tl + 20, fun x => if x < M.tl then M.tb x else by5 a b c d e (x - M.tl)), M.2))
noncomputable def A_sheet (M : Ms) (n : Int) : Int × Ms := if n < 0 ∨ (M.tl : Int) < n then rfs M 2 else match prs M.tb n.toNat with
  | .inl e => (-1, ((0, M.tb), M.2.1, M.L, 4, e.1, (e.2 : Int)))
  | .inr D => ((D.n : Int), ((0, M.tb), (true, D, (TT D).length, fun i => 2 * i), [], 0, 0, M.wh))
def A_fault (M : Ms) : Int × Ms := (M.fa, M)
def A_where (M : Ms) : Int × Ms := (if M.tr = 4 then M.wh else -1, M)
noncomputable def A_about (M : Ms) (w : Int) : Int × Ms := if M.dr = true ∧ 0 ≤ w ∧ w ≤ 10 then tld M (if w = 0 then M.D.sz else if w = 1 then M.D.jo else if w = 2 then (M.D.n : Int) else if w = 3 then M.D.hx else if w = 4 then M.D.hy else if w = 5 then M.D.dn else if w = 6 then M.D.up else if w = 7 then (mcn M.g : Int) else if w = 8 then (pcn M.g : Int) else if w = 9 then (sm (ocn M.g) (pcn M.g) : Int) else (M.T.length : Int)) else rfs M 1
noncomputable def A_stroke (M : Ms) (s w : Int) : Int × Ms := if M.dr = true ∧ 0 ≤ s ∧ s < M.D.n ∧ 0 ≤ w ∧ w ≤ 6 then tld M (if w = 0 then M.D.X (2 * s.toNat) else if w = 1 then M.D.Y (2 * s.toNat) else if w = 2 then M.D.X (2 * s.toNat + 1) else if w = 3 then M.D.Y (2 * s.toNat + 1) else if w = 4 then sl M.g s.toNat else if w = 5 then (mt M.g (2 * s.toNat) : Int) else (mt M.g (2 * s.toNat + 1) : Int)) else rfs M 1
noncomputable def A_meeting (M : Ms) (m w : Int) : Int × Ms := if M.dr = true ∧ 0 ≤ m ∧ m < mcn M.g ∧ 0 ≤ w ∧ w ≤ 4 then tld M (if w = 0 then sX M.g (hm M.D) m else if w = 1 then sY M.g (hm M.D) m else if w = 2 then (ecn M.g m.toNat : Int) else if w = 3 then (pt M.g m.toNat : Int) else (fe M.g m.toNat : Int)) else rfs M 1
noncomputable def A_part (M : Ms) (p w : Int) : Int × Ms := if M.dr = true ∧ 0 ≤ p ∧ p < pcn M.g ∧ 0 ≤ w ∧ w ≤ 5 then tld M (if w = 0 then (cnt (fun m => decide (pt M.g m = p.toNat)) (mcn M.g) : Int) else if w = 1 then (cnt (fun s => decide (pt M.g (mt M.g (2 * s)) = p.toNat)) M.D.n : Int) else if w = 2 then (ocn M.g p.toNat : Int) else if w = 3 then (nTr M.g p.toNat : Int) else if w = 4 then (fm M.g p.toNat : Int) else si (fun t => gp M.g (PN M.g p.toNat + t)) (ocn M.g p.toNat / 2)) else rfs M 1
noncomputable def A_pair (M : Ms) (i w : Int) : Int × Ms := if M.dr = true ∧ 0 ≤ i ∧ i < PN M.g (pcn M.g) ∧ 0 ≤ w ∧ w ≤ 3 then tld M (if w = 0 then ((apr M.g i.toNat).1 : Int) else if w = 1 then ((apr M.g i.toNat).2 : Int) else if w = 2 then gp M.g i.toNat else if ∃ p, p < pcn M.g ∧ i = cutI M.g p then 1 else 0) else rfs M 1
noncomputable def A_walk (M : Ms) (p k : Int) : Int × Ms := if M.dr = true ∧ 0 ≤ p ∧ p < pcn M.g ∧ 0 ≤ k then tld M (if k < (wkW M.g p.toNat).length then wcd M.g ((wkW M.g p.toNat).getD k.toNat (0, 0)) else -2) else rfs M 1
noncomputable def A_trail (M : Ms) (i w : Int) : Int × Ms := if M.dr = true ∧ 0 ≤ i ∧ i < M.N ∧ 0 ≤ w ∧ w ≤ 6 then tld M (if w = 0 then ((tg M.T (M.f i.toNat / 2)).1 : Int) else if w = 1 then ((tg M.T (M.f i.toNat / 2)).2.length : Int) else if w = 2 then (bgC M.g M.T (M.f i.toNat) : Int) else if w = 3 then (enC M.g M.T (M.f i.toNat) : Int) else if w = 4 then tL M.g (tg M.T (M.f i.toNat / 2)).2 else if w = 5 then ((M.f i.toNat % 2 : Nat) : Int) else ((M.f i.toNat / 2 : Nat) : Int)) else rfs M 1
noncomputable def A_ride (M : Ms) (i k : Int) : Int × Ms := if M.dr = true ∧ 0 ≤ i ∧ i < M.N ∧ 0 ≤ k ∧ k < (tg M.T (M.f i.toNat / 2)).2.length then tld M (rdN M.g M.T (M.f i.toNat) k.toNat : Int) else rfs M 1
noncomputable def A_travel (M : Ms) : Int × Ms := if M.dr = true then tld M (trv M.g (hm M.D) M.T M.N M.f) else rfs M 1
noncomputable def A_started (M : Ms) : Int × Ms := if M.dr = true then tld M (trv M.g (hm M.D) M.T M.T.length (fun i => 2 * i)) else rfs M 1
noncomputable def Ms.b (M : Ms) : Nat × (Nat → Nat) := bets M.g (hm M.D) M.T M.N c200 M.f
noncomputable def A_better (M : Ms) (w : Int) : Int × Ms := if M.dr = true ∧ 0 ≤ w ∧ w ≤ 1 then tld M (if w = 0 then trv M.g (hm M.D) M.T M.N M.b.2 else (M.b.1 : Int)) else rfs M 1
noncomputable def A_exchanged (M : Ms) (i k : Int) : Int × Ms := if M.dr = true ∧ 0 ≤ i ∧ i ≤ k ∧ k < M.N then tld M (chg M.g (hm M.D) M.T M.N M.f i.toNat k.toNat) else rfx M 1
noncomputable def A_floor (M : Ms) : Int × Ms := if M.dr = true then tld M (flr M.g (hm M.D) M.T) else rfs M 1
noncomputable def Ms.time (M : Ms) (D : Dw) : Int := D.dn * si (sl M.g) M.D.n + D.up * trv M.g (hm D) M.T M.N M.f
noncomputable def A_time (M : Ms) : Int × Ms := if M.dr = true then tld M (M.time M.D) else rfs M 1
noncomputable def A_pen (M : Ms) (t w : Int) : Int × Ms := if M.dr = true ∧ 0 ≤ w ∧ w ≤ 2 then (if 0 ≤ t ∧ t ≤ 99999 then tld M (ofP w (pen M.g (hm M.D) M.T M.N M.f M.D.dn M.D.up t)) else rfs M 2) else rfs M 1
noncomputable def A_longest (M : Ms) : Int × Ms := if M.dr = true then tld M (lgs M.g M.T M.f M.N) else rfs M 1
noncomputable def A_farthest (M : Ms) : Int × Ms := if M.dr = true then tld M (if M.N = 0 then -2 else (frt (lg M.g (hm M.D) M.T M.N M.f) M.N : Int)) else rfs M 1
noncomputable def A_lifts (M : Ms) : Int × Ms := if M.dr = true then tld M (lif M.g (hm M.D) M.T M.N M.f M.N : Int) else rfs M 1
/-- the trail in which a stroke lies -/
noncomputable def toS (T : Tr) (s : Nat) : Option Nat := fst1 (fun t => (tg T t).2.any (fun q => decide (q.2 = s))) T.length
noncomputable def A_rides (M : Ms) (s : Int) : Int × Ms := if M.dr = true ∧ 0 ≤ s ∧ s < M.D.n then tld M (match toS M.T s.toNat with
  | none => -1
  | some t => plc M.N M.f t) else rfs M 1
/-- why a stroke can't come: 0 it can -/
def why (M : Ms) (x y u v : Int) : Int := if M.dr = false then 1 else if (0 ≤ x ∧ x ≤ M.D.sz ∧ 0 ≤ y ∧ y ≤ M.D.sz) ∧ (0 ≤ u ∧ u ≤ M.D.sz ∧ 0 ≤ v ∧ v ≤ M.D.sz) ∧ ¬ (x = u ∧ y = v) then (if M.D.n < 24 then 0 else 3) else 2
/-- how many trails a drawing has by a join -/
noncomputable def tn (D : Dw) (j : Int) : Nat := sm (nTr (gD D j)) (pcn (gD D j))
noncomputable def A_would (M : Ms) (x y u v : Int) : Int × Ms := if why M x y u v = 0 then tld M ((tn (addD M.D x y u v) M.D.jo : Int) - (M.T.length : Int)) else rfx M (why M x y u v)
/-- the first of the first n by which it is least -/
def fewest (g : Nat → Nat) : Nat → Nat
  | 0 => 0
  | n + 1 => if g (n + 1) < g (fewest g n) then n + 1 else fewest g n
noncomputable def A_worst (M : Ms) : Int × Ms := if M.dr = true then tld M (if M.D.n = 0 then -2 else (fewest (fun s => tn (dropD M.D s) M.D.jo) (M.D.n - 1) : Int)) else rfs M 1
noncomputable def A_nearest (M : Ms) : Int × Ms := if M.dr = true then tld M (fewest (fun v => tn M.D v) 50 : Int) else rfs M 1
noncomputable def A_enough (M : Ms) (n : Int) : Int × Ms := if M.dr = true then (if 1 ≤ n ∧ n ≤ 24 then tld M (match fst1 (fun v => decide ((tn M.D v : Int) ≤ n)) 51 with
  | none => -2
  | some v => (v : Int)) else rfs M 2) else rfs M 1
noncomputable def A_add (M : Ms) (x y u v : Int) : Int × Ms := if why M x y u v = 0 then (((M.D.n + 1 : Nat) : Int), M.w (addD M.D x y u v) (TT (addD M.D x y u v)).length (fun i => 2 * i) M.k) else rfs M (why M x y u v)
noncomputable def A_drop (M : Ms) (s : Int) : Int × Ms := if M.dr = true ∧ 0 ≤ s ∧ s < M.D.n then (((M.D.n - 1 : Nat) : Int), M.w (dropD M.D s.toNat) (TT (dropD M.D s.toNat)).length (fun i => 2 * i) M.k) else rfs M 1
def homeD (D : Dw) (x y : Int) : Dw := mkD D.n D.sz D.jo x y D.dn D.up D.X D.Y
def joinD (D : Dw) (v : Int) : Dw := mkD D.n D.sz v D.hx D.hy D.dn D.up D.X D.Y
def paceD (D : Dw) (d u : Int) : Dw := mkD D.n D.sz D.jo D.hx D.hy d u D.X D.Y
noncomputable def A_home (M : Ms) (x y : Int) : Int × Ms := if M.dr = true then (if 0 ≤ x ∧ x ≤ M.D.sz ∧ 0 ≤ y ∧ y ≤ M.D.sz then (trv M.g (x, y) M.T M.N M.f, M.w (homeD M.D x y) M.N M.f M.k) else rfs M 2) else rfs M 1
noncomputable def A_join (M : Ms) (v : Int) : Int × Ms := if M.dr = true then (if 0 ≤ v ∧ v ≤ 50 then (if v = M.D.jo then ((M.N : Int), M.w M.D M.N M.f M.k) else (((TT (joinD M.D v)).length : Int), M.w (joinD M.D v) (TT (joinD M.D v)).length (fun i => 2 * i) M.k)) else rfs M 2) else rfs M 1
noncomputable def A_pace (M : Ms) (d u : Int) : Int × Ms := if M.dr = true then (if (1 ≤ d ∧ d ≤ 9) ∧ (1 ≤ u ∧ u ≤ 9) then (M.time (paceD M.D d u), M.w (paceD M.D d u) M.N M.f M.k) else rfs M 2) else rfs M 1
noncomputable def A_exchange (M : Ms) (i k : Int) : Int × Ms := if M.dr = true ∧ (0 ≤ i ∧ i < M.N) ∧ (0 ≤ k ∧ k < M.N) then (if i ≤ k then (trv M.g (hm M.D) M.T M.N (rvs i.toNat k.toNat M.f), M.w M.D M.N (rvs i.toNat k.toNat M.f) M.k) else rfs M 2) else rfs M 1
noncomputable def A_improve (M : Ms) : Int × Ms := if M.dr = true then (if M.b.1 = 0 then rfs M 5 else (trv M.g (hm M.D) M.T M.N M.b.2, M.w M.D M.N M.b.2 M.k)) else rfs M 1
def A_undo (M : Ms) : Int × Ms := match M.L with
  | [] => (0, M.t 1)
  | e :: L => (1, M.w e.1 e.2.1 e.2.2 L)
/-- the i-th loose meeting -/
noncomputable def A_loose (M : Ms) (i : Int) : Option Nat := if M.dr = true then fst1 (fun m => decide (ecn M.g m = 1) && decide ((cnt (fun x => decide (ecn M.g x = 1)) m : Int) = i)) (mcn M.g) else none
noncomputable def A_size (M : Ms) (w : Int) : Int × Ms := (if w = 0 then (M.tl : Int) else if w = 1 then (M.L.length : Int) else if w = 2 then (if M.dr = true then (PN M.g (pcn M.g) : Int) else 0) else -1, M)
def A_trouble (M : Ms) : Int × Ms := (M.tr, M)
/-- the class holds the state -/
def cT (σ : StT) (M : Ms) : Prop := okM M ∧ σ 2 1 = M.tl ∧ (∀ x, x < M.tl → σ 3 x = M.tb x) ∧ σ 1 12 = b2i M.dr ∧ σ 1 13 = M.tr ∧ σ 124 5 = M.fa ∧ (M.tr = 4 → σ 124 6 = M.wh) ∧ atH σ M.L ∧ z30 σ ∧ (M.dr = true → cW σ M.D M.N M.f)
