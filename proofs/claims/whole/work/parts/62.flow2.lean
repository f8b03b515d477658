/-! ===== cuts ===== -/
theorem ct_mono {p q : Nat → Bool} : ∀ {n : Nat}, (∀ i, i < n → p i = true → q i = true) → ct p n ≤ ct q n := by
  intro n
  induction n with
  | zero => intro _; exact Nat.le_refl _
  | succ n ih =>
    intro h
    rw [ct_succ, ct_succ]
    have a := ih (fun i hi => h i (by omega))
    have b : (p n).toNat ≤ (q n).toNat := by
      cases hp : p n with
      | false => exact Nat.zero_le _
      | true => rw [h n (by omega) hp]; exact Nat.le_refl _
    omega
def capc (F : Nat → Bool) (u v : Nat) : Int := if un F u v then 1 else 0
theorem cap_sum {F W : Nat → Bool} : sm (fun u => sm (crs W (capc F) u) 41) 41 = (ct (fun v => F v && (W v && !W (v + 20))) 20 : Int) := by
  have h1 : ∀ u, u < 41 → sm (crs W (capc F) u) 41 = if (decide (u < 20) && (F u && (W u && !W (u + 20)))) then 1 else 0 := fun u hu => by
    by_cases a : u < 20
    · rw [sm_one (k := u + 20) (by omega) (fun v _ hv => by
        unfold crs capc
        have : un F u v = false := by
          cases e : un F u v with
          | false => rfl
          | true => exact absurd (un_iff.mp e).2.1 hv
        rw [this]
        simp)]
      unfold crs capc un
      cases hF : F u <;> cases hW : W u <;> cases hV : W (u + 20) <;> simp [a]
    · rw [sm_zero (fun v _ => by
        unfold crs capc
        have : un F u v = false := by
          cases e : un F u v with
          | false => rfl
          | true => exact absurd (un_iff.mp e).1 a
        rw [this]
        simp)]
      simp [a]
  rw [sm_cong h1, sm_ct]
  have h2 := ct_more (p := fun u => decide (u < 20) && (F u && (W u && !W (u + 20)))) (n := 20) (fun i hi => by
    have : ¬ i < 20 := by omega
    simp [this]) 21
  rw [show (20 : Nat) + 21 = 41 from rfl] at h2
  rw [h2, ct_cong (q := fun v => F v && (W v && !W (v + 20))) (fun i hi => by simp [hi])]
section Flow2
variable {s N : Nat} {F told : Nat → Bool} {hb : Nat → Nat → Bool} {a : Nat → Nat → Bool} {φ : Nat → Nat → Int} {val : Int} {W : Nat → Bool}
theorem Flw.val_eq (hs : s < 20) (f : Flw s N F told hb a φ val 40) (w1 : W (20 + s) = true) (w2 : W 40 = false) : val = sm (fun u => sm (crs W φ u) 41) 41 := by
  rw [← flow_cut f.1, sm_one (k := 20 + s) (by omega) (fun i hi hne => ?_), if_pos w1, f.2.2.2.2 _ (by omega), if_pos rfl, if_neg (by omega)]
  · omega
  · by_cases e : i = 40
    · rw [e, w2]; rfl
    · by_cases c : W i = true
      · rw [if_pos c, f.2.2.2.2 i (by omega), if_neg hne, if_neg e]; rfl
      · rw [if_neg c]
theorem Flw.cross_le (f : Flw s N F told hb a φ val 40) (ni : ∀ u v, u < 41 → v < 41 → W u = true → W v = false → nf s N F told hb u v = false) : ∀ u v, u < 41 → v < 41 → crs W φ u v ≤ crs W (capc F) u v := by
  intro u v hu hv
  unfold crs
  by_cases c : (W u && !W v) = true
  · rw [if_pos c, if_pos c]
    simp only [Bool.and_eq_true, Bool.not_eq_true'] at c
    have sk := f.1 u v hu hv
    unfold capc
    by_cases e1 : un F u v = true
    · rw [if_pos e1]
      rcases f.2.1 u v hu hv e1 with ⟨x, -⟩ | ⟨x, -⟩ <;> omega
    · rw [if_neg e1]
      by_cases e2 : un F v u = true
      · rcases f.2.1 v u hv hu e2 with ⟨x, -⟩ | ⟨x, -⟩ <;> omega
      · have e3 := ni u v hu hv c.1 c.2
        by_cases e4 : nf s N F told hb v u = true
        · rcases (f.2.2.1 v u hv hu e4).2 with ⟨x, -⟩ | ⟨x, -⟩ <;> omega
        · have := (f.2.2.2.1 u v hu hv (by simpa using e1) (by simpa using e2) e3 (by simpa using e4)).1
          omega
  · rw [if_neg c, if_neg c]
    omega
theorem Flw.weak (hs : s < 20) (f : Flw s N F told hb a φ val 40) (w1 : W (20 + s) = true) (w2 : W 40 = false) (ni : ∀ u v, u < 41 → v < 41 → W u = true → W v = false → nf s N F told hb u v = false) : val ≤ (ct (fun v => F v && (W v && !W (v + 20))) 20 : Int) := by
  rw [f.val_eq hs w1 w2, ← cap_sum]
  exact sm_le (fun u hu => sm_le (fun v hv => f.cross_le ni u v hu hv))
theorem Flw.tight (hs : s < 20) (f : Flw s N F told hb a φ val 40) (w1 : W (20 + s) = true) (w2 : W 40 = false) (ni : ∀ u v, u < 41 → v < 41 → W u = true → W v = false → nf s N F told hb u v = false) (ht : (ct (fun v => F v && (W v && !W (v + 20))) 20 : Int) ≤ val) : ∀ u v, u < 41 → v < 41 → W u = true → W v = false → a u v = false := by
  intro u v hu hv h1 h2
  rw [f.val_eq hs w1 w2, ← cap_sum] at ht
  have le := f.cross_le ni
  have t1 := sm_tight (n := 41) (fun u hu => sm_le (fun v hv => le u v hu hv)) ht u hu
  have t2 := sm_tight (n := 41) (fun v hv => le u v hu hv) (by rw [t1]; exact Int.le_refl _) v hv
  unfold crs capc at t2
  rw [h1, h2] at t2
  simp only [Bool.not_false, Bool.and_self, if_true] at t2
  have sk := f.1 u v hu hv
  cases ha : a u v with
  | false => rfl
  | true =>
    by_cases e1 : un F u v = true
    · rw [if_pos e1] at t2
      rcases f.2.1 u v hu hv e1 with ⟨x, -, -⟩ | ⟨-, x, -⟩
      · omega
      · rw [ha] at x; cases x
    · rw [if_neg e1] at t2
      by_cases e2 : un F v u = true
      · rcases f.2.1 v u hv hu e2 with ⟨-, -, x⟩ | ⟨x, -, -⟩
        · rw [ha] at x; cases x
        · omega
      · have e3 := ni u v hu hv h1 h2
        by_cases e4 : nf s N F told hb v u = true
        · rcases (f.2.2.1 v u hv hu e4).2 with ⟨-, x⟩ | ⟨x, -⟩
          · rw [ha] at x; cases x
          · omega
        · have := (f.2.2.2.1 u v hu hv (by simpa using e1) (by simpa using e2) e3 (by simpa using e4)).2
          rw [ha] at this
          cases this
theorem Flw.exact (net : Net s N F hb) (f : Flw s N F told hb a φ val 40) (w1 : W (20 + s) = true) (w2 : W 40 = false) (cl : ∀ u v, u < 41 → v < 41 → W u = true → a u v = true → W v = true) : val = (ct (fun v => F v && (W v && !W (v + 20))) 20 : Int) := by
  have hs : s < 20 := by have := net.1; have := net.2.1; omega
  rw [f.val_eq hs w1 w2, ← cap_sum]
  refine sm_cong (fun u hu => sm_cong (fun v hv => ?_))
  unfold crs
  by_cases c : (W u && !W v) = true
  · rw [if_pos c, if_pos c]
    simp only [Bool.and_eq_true, Bool.not_eq_true'] at c
    have ha : a u v = false := by
      cases e : a u v with
      | false => rfl
      | true =>
        have := cl u v hu hv c.1 e
        rw [c.2] at this
        cases this
    have sk := f.1 u v hu hv
    unfold capc
    by_cases e1 : un F u v = true
    · rw [if_pos e1]
      rcases f.2.1 u v hu hv e1 with ⟨-, x, -⟩ | ⟨x, -, -⟩
      · rw [ha] at x; cases x
      · exact x
    · rw [if_neg e1]
      by_cases e2 : un F v u = true
      · rcases f.2.1 v u hv hu e2 with ⟨x, -, -⟩ | ⟨-, -, x⟩
        · omega
        · rw [ha] at x; cases x
      · by_cases e3 : nf s N F told hb u v = true
        · have := (f.2.2.1 u v hu hv e3).1
          rw [ha] at this
          cases this
        · by_cases e4 : nf s N F told hb v u = true
          · rcases (f.2.2.1 v u hv hu e4).2 with ⟨x, -⟩ | ⟨-, x⟩
            · omega
            · rw [ha] at x; cases x
          · exact (f.2.2.2.1 u v hu hv (by simpa using e1) (by simpa using e2) (by simpa using e3) (by simpa using e4)).1
  · rw [if_neg c, if_neg c]
end Flow2
/-! ===== who stands on the one, some being axioms ===== -/
def fre (hb : Nat → Nat → Bool) (s N : Nat) (told : Nat → Bool) (v : Nat) : Bool := decide (v < N) && (stn hb s (fun _ => false) N).testBit v && !told v
theorem fre_iff {hb : Nat → Nat → Bool} {s N v : Nat} {told : Nat → Bool} : fre hb s N told v = true ↔ v < N ∧ (stn hb s (fun _ => false) N).testBit v = true ∧ told v = false := by
  unfold fre
  simp [and_assoc]
theorem stn_iff {hb : Nat → Nat → Bool} {s N j : Nat} {ax : Nat → Bool} (hj : j < N) : (stn hb s ax N).testBit j = true ↔ s < j ∧ ax j = false ∧ ∃ k, k < j ∧ hb j k = true ∧ (k = s ∨ (stn hb s ax N).testBit k = true) := by
  rw [stn_bit hj]
  simp only [Bool.and_eq_true, decide_eq_true_eq, Bool.not_eq_true', anyb_iff, Bool.or_eq_true, and_assoc]
theorem stn_top {hb : Nat → Nat → Bool} {s N j : Nat} {ax : Nat → Bool} (h : (stn hb s ax N).testBit j = true) : j < N := by
  by_cases a : j < N
  · exact a
  · rw [tb_big (stn_lt N) (by omega)] at h; cases h
theorem stn_sub {hb : Nat → Nat → Bool} {s N : Nat} {ax ax' : Nat → Bool} (hx : ∀ j, j < N → ax' j = true → ax j = true) : ∀ j, (stn hb s ax N).testBit j = true → (stn hb s ax' N).testBit j = true := by
  intro j
  induction j using Nat.strongRecOn with
  | ind j ih =>
    intro h
    have hj := stn_top h
    obtain ⟨h1, h2, k, h3, h4, h5⟩ := (stn_iff hj).mp h
    refine (stn_iff hj).mpr ⟨h1, ?_, k, h3, h4, ?_⟩
    · cases e : ax' j with
      | false => rfl
      | true => rw [hx j hj e] at h2; cases h2
    · rcases h5 with h5 | h5
      · exact Or.inl h5
      · exact Or.inr (ih k h3 h5)
def Gr (hb : Nat → Nat → Bool) (s N : Nat) (told : Nat → Bool) : Prop := s < N ∧ N ≤ 20 ∧ told s = false ∧ (∀ j k, j < N → k < 20 → hb j k = true → k < j) ∧ ∀ t, t < N → told t = true → hb t s = false
def Sep (hb : Nat → Nat → Bool) (s N : Nat) (told Z : Nat → Bool) : Prop := ∀ t, t < N → told t = true → (stn hb s Z N).testBit t = false
theorem Gr.net {hb : Nat → Nat → Bool} {s N : Nat} {told : Nat → Bool} (g : Gr hb s N told) : Net s N (fre hb s N told) hb := by
  obtain ⟨g1, g2, g3, g4, g5⟩ := g
  refine ⟨g1, g2, ?_, fun v h => (fre_iff.mp h).1, fun v k h1 h2 h3 => g4 v k (fre_iff.mp h1).1 h2 h3⟩
  cases e : fre hb s N told s with
  | false => rfl
  | true =>
    obtain ⟨-, q, -⟩ := fre_iff.mp e
    have := ((stn_iff g1).mp q).1
    omega
/-- the side of the one, some being axioms -/
def wz (hb : Nat → Nat → Bool) (s N : Nat) (told Z : Nat → Bool) (u : Nat) : Bool := if u < 20 then fre hb s N told u && anyb (fun k => hb u k && (decide (k = s) || (stn hb s Z N).testBit k)) u else if u < 40 then decide (u = 20 + s) || (stn hb s Z N).testBit (u - 20) else false
section Cut
variable {hb : Nat → Nat → Bool} {s N : Nat} {told Z : Nat → Bool}
theorem wz_in {u : Nat} (hu : u < 20) : wz hb s N told Z u = true ↔ fre hb s N told u = true ∧ ∃ k, k < u ∧ hb u k = true ∧ (k = s ∨ (stn hb s Z N).testBit k = true) := by
  unfold wz
  rw [if_pos hu]
  simp only [Bool.and_eq_true, anyb_iff, Bool.or_eq_true, decide_eq_true_eq]
theorem wz_out {x : Nat} (hx : x < 20) : wz hb s N told Z (20 + x) = true ↔ x = s ∨ (stn hb s Z N).testBit x = true := by
  unfold wz
  rw [if_neg (by omega), if_pos (by omega), show 20 + x - 20 = x by omega]
  simp only [Bool.or_eq_true, decide_eq_true_eq]
  constructor
  · rintro (h | h)
    · exact Or.inl (by omega)
    · exact Or.inr h
  · rintro (h | h)
    · exact Or.inl (by omega)
    · exact Or.inr h
theorem wz_40 : wz hb s N told Z 40 = false := by
  unfold wz
  rw [if_neg (by omega), if_neg (by omega)]
theorem wz_ni (g : Gr hb s N told) (hZ : ∀ v, Z v = true → fre hb s N told v = true) (sp : Sep hb s N told Z) : ∀ u v, u < 41 → v < 41 → wz hb s N told Z u = true → wz hb s N told Z v = false → nf s N (fre hb s N told) told hb u v = false := by
  intro u v hu hv h1 h2
  cases e : nf s N (fre hb s N told) told hb u v with
  | false => rfl
  | true =>
    obtain ⟨g1, g2, g3, g4, g5⟩ := g
    obtain ⟨n1, n2, n3, n4⟩ := nf_iff.mp e
    obtain ⟨x, rfl⟩ : ∃ x, u = 20 + x := ⟨u - 20, by omega⟩
    have hx : x < 20 := by omega
    rw [show 20 + x - 20 = x by omega] at n3 n4
    have hA := (wz_out hx).mp h1
    rcases n4 with ⟨m1, m2, m3⟩ | ⟨m1, m2⟩
    · have lt := g4 v x (fre_iff.mp m2).1 hx m3
      have := (wz_in (Z := Z) m1).mpr ⟨m2, x, lt, m3, hA⟩
      rw [h2] at this
      cases this
    · unfold toE at m2
      obtain ⟨t, t1, t2⟩ := anyb_iff.mp m2
      simp only [Bool.and_eq_true] at t2
      have lt := g4 t x t1 hx t2.2
      have hZt : Z t = false := by
        cases q : Z t with
        | false => rfl
        | true =>
          have := (fre_iff.mp (hZ t q)).2.2
          rw [t2.1] at this
          cases this
      have sx : s ≤ x := by
        rcases hA with q | q
        · omega
        · have := ((stn_iff (stn_top q)).mp q).1
          omega
      have := (stn_iff (ax := Z) t1).mpr ⟨by omega, hZt, x, lt, t2.2, hA⟩
      rw [sp t t1 t2.1] at this
      cases this
theorem wz_cut (g : Gr hb s N told) {v : Nat} (hv : v < 20) (hF : fre hb s N told v = true) (h1 : wz hb s N told Z v = true) (h2 : wz hb s N told Z (v + 20) = false) : Z v = true := by
  obtain ⟨-, k, k1, k2, k3⟩ := (wz_in hv).mp h1
  have hvN := (fre_iff.mp hF).1
  cases q : Z v with
  | true => rfl
  | false =>
    have sk : s ≤ k := by
      rcases k3 with e | e
      · omega
      · have := ((stn_iff (stn_top e)).mp e).1
        omega
    have : (stn hb s Z N).testBit v = true := (stn_iff hvN).mpr ⟨by omega, q, k, k1, k2, k3⟩
    have := (wz_out (s := s) (N := N) (hb := hb) (told := told) (Z := Z) hv).mpr (Or.inr this)
    rw [Nat.add_comm, h2] at this
    cases this
theorem wz_ct (g : Gr hb s N told) : ct (fun v => fre hb s N told v && (wz hb s N told Z v && !wz hb s N told Z (v + 20))) 20 ≤ ct Z N := by
  have hN := g.2.1
  have e := ct_more (p := fun v => fre hb s N told v && (wz hb s N told Z v && !wz hb s N told Z (v + 20))) (n := N) (fun i hi => by
    cases q : fre hb s N told i with
    | false => rfl
    | true => have := (fre_iff.mp q).1; omega) (20 - N)
  rw [show N + (20 - N) = 20 by omega] at e
  rw [e]
  refine ct_mono (fun i hi h => ?_)
  simp only [Bool.and_eq_true, Bool.not_eq_true'] at h
  exact wz_cut g (by omega) h.1 h.2.1 h.2.2
theorem Gr.weak {a : Nat → Nat → Bool} {φ : Nat → Nat → Int} {val : Int} (g : Gr hb s N told) (f : Flw s N (fre hb s N told) told hb a φ val 40) (hZ : ∀ v, Z v = true → fre hb s N told v = true) (sp : Sep hb s N told Z) : val ≤ (ct Z N : Int) := by
  have h := f.weak (W := wz hb s N told Z) (by have := g.1; have := g.2.1; omega) ((wz_out (by have := g.1; have := g.2.1; omega)).mpr (Or.inl rfl)) wz_40 (wz_ni g hZ sp)
  have := wz_ct (Z := Z) g
  omega
end Cut
theorem dom_le {C X : Nat → Bool} : ∀ {n : Nat}, (∀ k, k ≤ n → ct C n + ct X k ≤ ct X n + ct C k) → bs C n ≤ bs X n := by
  intro n
  induction n with
  | zero => intro _; exact Nat.le_refl _
  | succ n ih =>
    intro h
    show bs C n + (if C n then 2 ^ n else 0) ≤ bs X n + (if X n then 2 ^ n else 0)
    have top := h n (by omega)
    rw [ct_succ, ct_succ] at top
    have bl := bs_lt C n
    cases hc : C n with
    | true =>
      cases hx : X n with
      | true =>
        have := ih (fun k hk => by
          have := h k (by omega)
          rw [ct_succ, ct_succ, hc, hx] at this
          omega)
        omega
      | false =>
        rw [hc, hx] at top
        have : (true).toNat = 1 := rfl
        have : (false).toNat = 0 := rfl
        omega
    | false =>
      cases hx : X n with
      | true => simp only [Bool.false_eq_true, if_false, if_true]; omega
      | false =>
        have := ih (fun k hk => by
          have := h k (by omega)
          rw [ct_succ, ct_succ, hc, hx] at this
          omega)
        omega
theorem ct_mix {C X : Nat → Bool} {k : Nat} : ∀ {n : Nat}, k ≤ n → ct (fun v => if v < k then C v else X v) n + ct X k = ct C k + ct X n := by
  intro n
  induction n with
  | zero => intro h; have : k = 0 := by omega
            subst this; rfl
  | succ n ih =>
    intro h
    by_cases e : k = n + 1
    · rw [e]
      rw [ct_cong (q := C) (fun i hi => if_pos hi)]
    · have := ih (by omega)
      rw [ct_succ, ct_succ X n]
      have hn : ¬ n < k := by omega
      simp only [hn, if_false]
      omega
