/-! ===== what holds between the two sides, between calls ===== -/
/-- line j has line i -/
def hasb (K F S : Rw) (j i : Nat) : Bool := (!decide (K j = 0) && decide (F j = nI i)) || decide (S j = nI i)
/-- how deep, by its rule, of a row of depths -/
def dpf (K F S : Rw) (r : Rw) (i : Nat) : Int32 := if K i = 0 then 0 else if S i < 0 then r (F i).toNatClampNeg + 1 else jmax (r (F i).toNatClampNeg + 1) (r (S i).toNatClampNeg + 1)
/-- on what it stands, of a row of sets -/
def ndf (K F S : Rw) (r : Rw) (i : Nat) : Int32 := if K i = 0 then 0 else if S i < 0 then r (F i).toNatClampNeg ||| jshl 1 (F i) else (r (F i).toNatClampNeg ||| jshl 1 (F i)) ||| (r (S i).toNatClampNeg ||| jshl 1 (S i))
/-- how many below n -/
def ct (p : Nat → Bool) : Nat → Nat
  | 0 => 0
  | n + 1 => ct p n + (if p n then 1 else 0)
def Der (N : Nat) (K F S D U Nd : Rw) : Prop := ∀ i, i < N → D i = dpf K F S D i ∧ (∃ d, d ≤ i ∧ D i = nI d) ∧ U i = nI (ct (fun j => hasb K F S j i) N) ∧ Nd i = ndf K F S Nd i ∧ ∃ s, s < 2 ^ i ∧ Nd i = nI s
/-- one school in both: size, modulus, X, axioms, kinds, firsts, seconds, claims, depths, users, needs, points -/
def Sc (N M x : Nat) (sz m xx : Int32) (A K F S C D U Nd Pt : Rw) (sz' m' xx' : Int32) (A' K' F' S' C' Pt' : Rw) : Prop :=
  sz = nI N ∧ sz' = nI N ∧ m' = m ∧ xx = nI x ∧ xx' = nI x ∧ x < 65536 ∧ Wr N M m A K F S ∧ eqOn 10 A A' ∧ eqOn N K K' ∧ eqOn N F F' ∧ eqOn N S S' ∧ eqOn N C C' ∧ Cl N M C ∧ Der N K F S D U Nd ∧ ∀ p, p < 8 → Pt p = Pt' p ∧ -99 ≤ Pt p ∧ Pt p ≤ 99
def ScN (N M x : Nat) (h : AH) : Prop := Sc N M x (h.1 6 0) (h.1 3 0) (h.1 3 1) (h.1 4) (h.1 8) (h.1 9) (h.1 10) (h.1 7) (h.1 11) (h.1 12) (h.1 13) (h.1 5) (h.1 75 2) (h.1 75 0) (h.1 75 1) (h.1 76) (h.1 78) (h.1 79) (h.1 80) (h.1 77) (h.1 81)
def ScK (N M x : Nat) (h : AH) : Prop := Sc N M x (h.1 17 0) (h.1 14 0) (h.1 14 1) (h.1 15) (h.1 19) (h.1 20) (h.1 21) (h.1 18) (h.1 22) (h.1 23) (h.1 24) (h.1 16) (h.1 75 57) (h.1 75 56) (h.1 75 58) (h.1 111) (h.1 113) (h.1 114) (h.1 115) (h.1 112) (h.1 116)
def Kp (h : AH) : Prop := (h.1 0 3 = 0 ∧ h.1 75 55 = 0) ∨ (h.1 0 3 = 1 ∧ h.1 75 55 = 1 ∧ ∃ N M x, ScK N M x h)
/-- the tape -/
def Tp (T : Nat) (h : AH) : Prop := T ≤ 220 ∧ h.1 1 1 = nI T ∧ h.1 75 10 = nI T ∧ ∀ i, i < 220 → ∃ b, b < 256 ∧ h.1 2 i = nI b ∧ h.1 82 i &&& 255 = nI b
/-- the class's stack machine comes to f of the facts, and writes its own cells alone -/
def EvX (code : Rw) (a b : Int32) (f : Rw → Int32) : Prop := ∀ h : AH, eqOn 200 (h.1 43) code → ∃ u v r, fX4_run a b h = some (f (h.1 47), sR (sI (sI h 42 3 u) 42 4 v) 48 r)
/-- the model's -/
def EvM (code : Rw) (a b : Int32) (f : Rw → Int32) : Prop := ∀ h : AH, eqOn 220 (h.1 97) code → ∃ r, fX12_comesTo a b h = some (f (h.1 103), sR h 102 r)
/-- a clause: its condition (not 0: it holds) and its value, of the facts -/
def Clz (cx lt vs cs cm cl fr hf tt : Rw) (asks : Int32) (q : Nat) : Prop :=
  ∃ (c v : Rw → Int32), lt q = cl q ∧ (∀ f, c f = 0 ∨ c f = 1) ∧ (∀ f g, eqOn 8 f g → c f = c g ∧ v f = v g) ∧ (lt q = 114 → asks = 0 → ∀ f x, c (upd f 2 x) = c f) ∧
    EvX cx (cs q) (vs (q + 1)) c ∧ EvM cm (hf q) (tt q) c ∧ (¬ lt q = 114 → EvX cx (vs q) (cs q) v ∧ EvM cm (fr q) (hf q) v)
def Lz (n : Nat) (h : AH) : Prop := n ≤ 14 ∧ h.1 42 0 = nI n ∧ h.1 75 28 = nI n ∧ (h.1 42 1 = 0 ∨ h.1 42 1 = 1) ∧ (∀ q, q < n → Clz (h.1 43) (h.1 44) (h.1 45) (h.1 46) (h.1 97) (h.1 98) (h.1 99) (h.1 100) (h.1 101) (h.1 42 1) q) ∧ h.1 38 0 = 0
def Inv (h : AH) : Prop := (∃ N M x, ScN N M x h) ∧ Kp h ∧ (∃ T, Tp T h) ∧ ∃ n, Lz n h
/-- whole cells of the core; the rest by their places -/
def coreC : List Nat := [2, 3, 4, 5, 6, 7, 8, 9, 10, 11, 12, 13, 14, 15, 16, 17, 18, 19, 20, 21, 22, 23, 24, 43, 44, 45, 46, 76, 77, 78, 79, 80, 81, 82, 97, 98, 99, 100, 101, 111, 112, 113, 114, 115, 116]
def coreS : List (Nat × Nat) := [(0, 3), (1, 1), (42, 0), (42, 1), (75, 0), (75, 1), (75, 2), (75, 10), (75, 28), (75, 55), (75, 56), (75, 57), (75, 58), (38, 0)]
def Core (h g : AH) : Prop := (∀ c ∈ coreC, g.1 c = h.1 c) ∧ ∀ q ∈ coreS, g.1 q.1 q.2 = h.1 q.1 q.2
theorem Core.rf {h : AH} : Core h h := ⟨fun _ _ => rfl, fun _ _ => rfl⟩
theorem Core.tr {h g k : AH} (a : Core h g) (b : Core g k) : Core h k := ⟨fun c hc => (b.1 c hc).trans (a.1 c hc), fun q hq => (b.2 q hq).trans (a.2 q hq)⟩
theorem Core.sy {h g : AH} (a : Core h g) : Core g h := ⟨fun c hc => (a.1 c hc).symm, fun q hq => (a.2 q hq).symm⟩
def scrC (a : Nat) : Bool := !coreC.contains a && !(coreS.map Prod.fst).contains a
theorem Core.sR {h : AH} {a : Nat} {r : Rw} (ha : scrC a = true) : Core h (sR h a r) := by
  unfold scrC at ha
  simp only [Bool.and_eq_true, Bool.not_eq_true', List.contains_eq_mem, decide_eq_false_iff_not, List.mem_map, Prod.exists, exists_and_right, exists_eq_right, not_exists] at ha
  refine ⟨fun c hc => sR_ne h r (fun e => ha.1 (e ▸ hc)), fun q hq => ?_⟩
  rw [sR_ne h r]
  intro e
  exact ha.2 q.2 (by rw [← e]; exact hq)
theorem Core.sI {h : AH} {a j : Nat} {v : Int32} (ha : (!coreC.contains a && !coreS.contains (a, j)) = true) : Core h (sI h a j v) := by
  simp only [Bool.and_eq_true, Bool.not_eq_true', List.contains_eq_mem, decide_eq_false_iff_not] at ha
  refine ⟨fun c hc => sI_ne h j v (fun e => ha.1 (e ▸ hc)), fun q hq => ?_⟩
  by_cases e : q.1 = a
  · have e2 : q.2 ≠ j := fun e2 => ha.2 (by rw [← e, ← e2]; exact hq)
    rw [e, sI_at, upd_ne _ _ e2]
  · rw [sI_ne h j v e]
theorem Core.sJ {h : AH} {a j : Nat} {v : Int64} : Core h (sJ h a j v) := ⟨fun _ _ => rfl, fun _ _ => rfl⟩
theorem Core.C {h g : AH} (k : Core h g) (c : Nat) (hc : coreC.contains c = true) : g.1 c = h.1 c := k.1 c (by simpa using hc)
theorem Core.P {h g : AH} (k : Core h g) (c j : Nat) (hc : coreS.contains (c, j) = true) : g.1 c j = h.1 c j := k.2 (c, j) (by simpa using hc)
theorem ScN.core {N M x : Nat} {h g : AH} (k : Core h g) (H : ScN N M x h) : ScN N M x g := by
  unfold ScN
  rw [k.C 6 (by decide), k.C 3 (by decide), k.C 4 (by decide), k.C 8 (by decide), k.C 9 (by decide), k.C 10 (by decide), k.C 7 (by decide), k.C 11 (by decide), k.C 12 (by decide), k.C 13 (by decide), k.C 5 (by decide), k.P 75 2 (by decide), k.P 75 0 (by decide), k.P 75 1 (by decide), k.C 76 (by decide), k.C 78 (by decide), k.C 79 (by decide), k.C 80 (by decide), k.C 77 (by decide), k.C 81 (by decide)]
  exact H
theorem ScK.core {N M x : Nat} {h g : AH} (k : Core h g) (H : ScK N M x h) : ScK N M x g := by
  unfold ScK
  rw [k.C 17 (by decide), k.C 14 (by decide), k.C 15 (by decide), k.C 19 (by decide), k.C 20 (by decide), k.C 21 (by decide), k.C 18 (by decide), k.C 22 (by decide), k.C 23 (by decide), k.C 24 (by decide), k.C 16 (by decide), k.P 75 57 (by decide), k.P 75 56 (by decide), k.P 75 58 (by decide), k.C 111 (by decide), k.C 113 (by decide), k.C 114 (by decide), k.C 115 (by decide), k.C 112 (by decide), k.C 116 (by decide)]
  exact H
theorem Kp.core {h g : AH} (k : Core h g) (H : Kp h) : Kp g := by
  unfold Kp
  rw [k.P 0 3 (by decide), k.P 75 55 (by decide)]
  rcases H with H | ⟨h1, h2, N, M, x, h3⟩
  · exact Or.inl H
  · exact Or.inr ⟨h1, h2, N, M, x, h3.core k⟩
theorem Tp.core {T : Nat} {h g : AH} (k : Core h g) (H : Tp T h) : Tp T g := by
  unfold Tp
  rw [k.P 1 1 (by decide), k.P 75 10 (by decide), k.C 2 (by decide), k.C 82 (by decide)]
  exact H
theorem Lz.core {n : Nat} {h g : AH} (k : Core h g) (H : Lz n h) : Lz n g := by
  unfold Lz
  rw [k.P 42 0 (by decide), k.P 75 28 (by decide), k.P 42 1 (by decide), k.C 43 (by decide), k.C 44 (by decide), k.C 45 (by decide), k.C 46 (by decide), k.C 97 (by decide), k.C 98 (by decide), k.C 99 (by decide), k.C 100 (by decide), k.C 101 (by decide), k.P 38 0 (by decide)]
  exact H
theorem Inv.core {h g : AH} (k : Core h g) (H : Inv h) : Inv g := by
  obtain ⟨⟨N, M, x, a⟩, b, ⟨T, c⟩, n, d⟩ := H
  exact ⟨⟨N, M, x, a.core k⟩, b.core k, ⟨T, c.core k⟩, n, d.core k⟩
theorem ScN.WX {N M x : Nat} {h : AH} (H : ScN N M x h) : WX N M h := ⟨H.1, H.2.2.2.2.2.2.1⟩
theorem Lw.eq {K K' F F' S S' : Rw} {i : Nat} (hK : K i = K' i) (hF : F i = F' i) (hS : S i = S' i) (w : Lw K F S i) : Lw K' F' S' i := by
  unfold Lw at w ⊢
  rw [← hK, ← hF, ← hS]
  exact w
theorem ScN.WM {N M x : Nat} {h : AH} (H : ScN N M x h) : WM N M h := by
  obtain ⟨-, h2, h3, -, -, -, ⟨w1, w2, w3, w4, w5, w6⟩, hA, hK, hF, hS, -⟩ := H
  exact ⟨h2, w1, h3.trans w2, w3, w4, fun a ha => by rw [← hA a ha]; exact w5 a ha, fun i hi => Lw.eq (hK i hi) (hF i hi) (hS i hi) (w6 i hi)⟩
/-- the two rules are one -/
theorem ScN.same {N M x : Nat} {h : AH} (H : ScN N M x h) {i : Nat} (hi : i < N) {r r' : Rw} (hr : eqOn i r r') : mX h r i = mM h r' i := by
  have w := H.WX
  obtain ⟨-, h2, h3, -, -, -, ⟨w1, w2, w3, w4, w5, w6⟩, hA, hK, hF, hS, -⟩ := H
  show mk (h.1 3 0) (h.1 4) (h.1 8) (h.1 9) (h.1 10) r i = mk (h.1 75 0) (h.1 76) (h.1 78) (h.1 79) (h.1 80) r' i
  rw [mk_row (w6 i hi) hr, h3]
  exact mk_wds hA (hK i hi) (hF i hi) (hS i hi) (w6 i hi)
theorem ScN.C {N M x : Nat} {h : AH} (H : ScN N M x h) : eqOn N (h.1 7) (h.1 77) := H.2.2.2.2.2.2.2.2.2.2.2.1
theorem ScN.Cl {N M x : Nat} {h : AH} (H : ScN N M x h) : Cl N M (h.1 7) := H.2.2.2.2.2.2.2.2.2.2.2.2.1
