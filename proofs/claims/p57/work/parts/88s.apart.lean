/-! ===== the class' cells and the ghost's ===== -/
def zcls (a : Int) : Bool := decide (a < 236)
def zref (a : Int) : Bool := decide (236 ≤ a)
def zSc (k : Nat) : Bool := Nat.blt k 190 || (Nat.ble 318 k && Nat.blt k 328)
def zSr (k : Nat) : Bool := Nat.ble 190 k && Nat.blt k 318
def zdF (k : Nat) : Nat := bif zelem [0, 4, 6, 12, 13, 14, 23, 24, 31, 32, 33, 36, 39, 42, 45, 50, 51, 72, 73, 80, 82, 85, 88, 90, 93, 95, 98, 100, 104, 110, 111, 112, 124, 125, 182, 183, 184, 185, 186, 187, 319, 320] k then 1 else bif zelem [8, 9, 18, 20, 21, 22, 25, 26, 37, 38, 40, 68, 69, 70, 71, 91, 96, 99, 103, 114, 115, 122, 137, 138, 139, 156, 170, 176, 177, 178] k then 2 else bif zelem [7, 41, 43, 47, 60, 61, 67, 101, 102, 113, 121, 123, 141, 142, 145, 146, 147, 151, 157, 158, 165, 166, 167, 175] k then 3 else bif zelem [30, 58, 59, 143, 149, 153, 155, 160, 163, 174, 325] k then 4 else bif zelem [56, 148, 169, 327] k then 5 else bif zelem [128, 129, 130, 131, 132, 133, 135, 136, 326] k then 6 else bif zelem [324] k then 7 else bif zelem [318] k then 8 else 0
theorem zSc_l {k : Nat} (h : zSc k = true) : k < 328 := by
  unfold zSc at h
  rw [Bool.or_eq_true, Bool.and_eq_true] at h
  rcases h with h | ⟨_, h⟩
  · have : k + 1 ≤ 190 := Nat.le_of_ble_eq_true h
    omega
  · exact Nat.le_of_ble_eq_true h
theorem zSr_l {k : Nat} (h : zSr k = true) : k < 328 := by
  unfold zSr at h
  rw [Bool.and_eq_true] at h
  have : k + 1 ≤ 318 := Nat.le_of_ble_eq_true h.2
  omega
theorem zck_in {R : Int → Bool} {S : Nat → Bool} {F : Nat → Nat} {b : Bool} (h : ∀ k, k < 328 → S k = true → (zinsT k).all (fun e => zgI R S F b k e.2.1) = true) (hS : ∀ k, S k = true → k < 328) : ∀ k pc i len, S k = true → zins k pc = some (i, len) → zgI R S F b k i = true := fun k pc i len hk e => List.all_eq_true.mp (h k (hS k hk) hk) _ (zlk_mem _ _ _ e)
theorem zck_c : ∀ k, k < 328 → zSc k = true → (zinsT k).all (fun e => zgI zcls zSc zdF true k e.2.1) = true := by decide +kernel
theorem zck_c0 : ∀ k, k < 328 → zSc k = true → (zinsT k).all (fun e => zgI zcls zSc zdF false k e.2.1) = true := by decide +kernel
theorem zck_r : ∀ k, k < 328 → zSr k = true → (zinsT k).all (fun e => zgI zref zSr zdF false k e.2.1) = true := by decide +kernel
def zpo (n j : Nat) : Bool := match zpv n j with
  | some p => bif Nat.blt n 236 then decide (p < 236) else decide (236 ≤ p)
  | none => false
theorem zpo_1 : ∀ n, n < 269 → ((zshN n).1 = 4 ∨ (zshN n).1 = 5) → ∀ j, j < (zshN n).2.toNat → zpo n j = true := by decide +kernel
theorem zpo_2 : ∀ n, n < 269 → 10 ≤ (zshN n).1 → ∀ j, j < zNf ((zshN n).1 - 10) → zisR (ztyX ((zshN n).1 - 10) j) = true → zpo n j = true := by decide +kernel
theorem zpo_R {m : ZN} {n j : Nat} (h : zpo n j = true) : (n < 236 → zcls (m.1 n j) = true) ∧ (236 ≤ n → zref (m.1 n j) = true) := by
  unfold zpo at h
  split at h
  · next p e =>
    rw [m.2 n j p e]
    by_cases q : n < 236
    · rw [show Nat.blt n 236 = true from Nat.ble_eq_true_of_le q] at h
      exact ⟨fun _ => h, fun z => by omega⟩
    · rw [show Nat.blt n 236 = false from by
        cases z : Nat.blt n 236 with
        | true => exact absurd (Nat.le_of_ble_eq_true z) q
        | false => rfl] at h
      exact ⟨fun z => absurd z q, fun _ => h⟩
  · cases h
theorem zsh_in {a : Int} (h : (zsh a).1 ≠ 99) : ∃ n : Nat, n < 269 ∧ a = n ∧ zsh a = zshN n := by
  have h0 := zsh_0 h
  by_cases h1 : 269 ≤ a
  · refine absurd ?_ h
    rw [← zshF_eq]
    obtain ⟨n, rfl⟩ := Int.eq_ofNat_of_zero_le h0
    show (zshN n).1 = 99
    unfold zshN
    rw [show Nat.blt n 269 = false from by
      cases z : Nat.blt n 269 with
      | true => exact absurd (Nat.le_of_ble_eq_true z) (by omega)
      | false => rfl]
    rfl
  · obtain ⟨n, rfl⟩ := Int.eq_ofNat_of_zero_le h0
    exact ⟨n, by omega, rfl, (zshN_ok n (by omega)).symm⟩
theorem zMR_1 (m : ZN) {a i : Int} (hk : (zsh a).1 = 4 ∨ (zsh a).1 = 5) (i0 : 0 ≤ i) (i1 : i < (zsh a).2) : (a < 236 → zcls (m.1 a i) = true) ∧ (236 ≤ a → zref (m.1 a i) = true) := by
  obtain ⟨n, h1, rfl, h2⟩ := zsh_in (a := a) (by omega)
  rw [h2] at hk i1
  obtain ⟨j, rfl⟩ := Int.eq_ofNat_of_zero_le i0
  obtain ⟨w1, w2⟩ := zpo_R (m := m) (zpo_1 n h1 hk j (by omega))
  exact ⟨fun q => w1 (by omega), fun q => w2 (by omega)⟩
theorem zMR_2 (m : ZN) {a : Int} {ci j : Nat} (hk : zsh a = (10 + ci, 0)) (hj : j < zNf ci) (ht : zisR (ztyX ci j) = true) : (a < 236 → zcls (m.1 a j) = true) ∧ (236 ≤ a → zref (m.1 a j) = true) := by
  have h99 : (zsh a).1 ≠ 99 := fun q => by
    rw [hk] at q
    dsimp only at q
    have e : ci = 89 := by omega
    subst e
    exact absurd hj (Nat.not_lt_zero j)
  obtain ⟨n, h1, rfl, h2⟩ := zsh_in (a := a) h99
  have e : (zshN n).1 = 10 + ci := by rw [← h2, hk]
  obtain ⟨w1, w2⟩ := zpo_R (m := m) (zpo_2 n h1 (by omega) j (by rw [e, show 10 + ci - 10 = ci from by omega]; exact hj) (by rw [e, show 10 + ci - 10 = ci from by omega]; exact ht))
  exact ⟨fun q => w1 (by omega), fun q => w2 (by omega)⟩
theorem zMR_c (m : ZN) : zMR zcls m.1 := ⟨m.2 (-1) 0 236 rfl, fun a i ha hk i0 i1 => (zMR_1 m hk i0 i1).1 (of_decide_eq_true ha), fun a ci j ha hk hj ht => (zMR_2 m hk hj ht).1 (of_decide_eq_true ha)⟩
theorem zMR_r (m : ZN) : zMR zref m.1 := ⟨m.2 (-1) 0 236 rfl, fun a i ha hk i0 i1 => (zMR_1 m hk i0 i1).2 (of_decide_eq_true ha), fun a ci j ha hk hj ht => (zMR_2 m hk hj ht).2 (of_decide_eq_true ha)⟩
/-- the same but for the ghost -/
def zsm (m m' : ZN) : Prop := ∀ a, a < 236 → ∀ j, zr m a j = zr m' a j
theorem zag_rf {R : Int → Bool} {M : ZM} : zAg R M M := ⟨rfl, fun _ _ _ _ => rfl⟩
theorem zrun_c {n d k pc : Nat} {ls : ZL} {st : ZS} {m m2 m4 : ZN} {r : Option ZV} (h : zbody n d k pc ls st m2.1 = some (r, m4.1)) (hk : zSc k = true) (hL : zLR zcls ls) (hS : zSR zcls st) (hm : zsm m m2) : ∃ m3 : ZN, zbody n d k pc ls st m.1 = some (r, m3.1) ∧ zsm m3 m4 ∧ ∀ a, 236 ≤ a → ∀ j, zr m3 a j = zr m a j := by
  have hc := zck_in zck_c0 (fun k h => zSc_l h)
  obtain ⟨M1, f1, _, _, _, f5⟩ := zbody_rel hc n _ _ _ _ _ _ _ h hk hL hS (zMR_c m2) d m2.1 rfl zag_rf
  have e1 : m4.1 = M1 := by rw [h] at f1; exact (Prod.mk.inj (Option.some.inj f1)).2
  subst e1
  obtain ⟨M3, g1, _, _, g4, g5⟩ := zbody_rel hc n _ _ _ _ _ _ _ h hk hL hS (zMR_c m2) d m.1 rfl ⟨(hm (-1) (by decide) 0).symm, fun a ha _ j => (hm a (of_decide_eq_true ha) j).symm⟩
  have hlo : ∀ a, a < 236 → ∀ j, M3 a j = m4.1 a j := fun a ha j => by
    by_cases q : a < 0
    · rw [← g5 a (Or.inr q) j, ← f5 a (Or.inr q) j]
      exact hm a ha j
    · exact (g4.2 a (decide_eq_true ha) (by omega) j).symm
  have hhi : ∀ a, 236 ≤ a → ∀ j, M3 a j = m.1 a j := fun a ha j => (g5 a (Or.inl (decide_eq_false (by omega))) j).symm
  refine ⟨⟨M3, fun a j p hp => ?_⟩, g1, hlo, hhi⟩
  by_cases q : a < 236
  · rw [hlo a q j]
    exact m4.2 a j p hp
  · rw [hhi a (by omega) j]
    exact m.2 a j p hp
/-- a run of the class' or the law's methods at any depth is one at the depth that they need -/
theorem zrun_d {n d d' k pc : Nat} {ls : ZL} {st : ZS} {m m4 : ZN} {r : Option ZV} (h : zbody n d k pc ls st m.1 = some (r, m4.1)) (hk : zSc k = true) (hL : zLR zcls ls) (hS : zSR zcls st) (hd : zdF k ≤ d') : zbody n d' k pc ls st m.1 = some (r, m4.1) := by
  have hc := zck_in zck_c (fun k h => zSc_l h)
  obtain ⟨M1, f1, _, _, f4, f5⟩ := zbody_rel hc n _ _ _ _ _ _ _ h hk hL hS (zMR_c m) d' m.1 hd zag_rf
  have hc0 := zck_in zck_c0 (fun k h => zSc_l h)
  obtain ⟨M2, g1, _, _, _, g5⟩ := zbody_rel hc0 n _ _ _ _ _ _ _ h hk hL hS (zMR_c m) d m.1 rfl zag_rf
  have e1 : m4.1 = M2 := by rw [h] at g1; exact (Prod.mk.inj (Option.some.inj g1)).2
  subst e1
  have e2 : M1 = m4.1 := by
    funext a j
    by_cases q : zcls a = false ∨ a < 0
    · rw [← f5 a q j, ← g5 a q j]
    · have q1 : zcls a = true := by
        cases z : zcls a with
        | true => rfl
        | false => exact absurd (Or.inl z) q
      exact (f4.2 a q1 (by omega) j).symm
  rw [f1, e2]
theorem zrun_r {n d k pc : Nat} {ls : ZL} {st : ZS} {m m4 : ZN} {r : Option ZV} (h : zbody n d k pc ls st m.1 = some (r, m4.1)) (hk : zSr k = true) (hL : zLR zref ls) (hS : zSR zref st) : zsm m4 m := by
  have hc := zck_in zck_r (fun k h => zSr_l h)
  obtain ⟨M1, f1, _, _, _, f5⟩ := zbody_rel hc n _ _ _ _ _ _ _ h hk hL hS (zMR_r m) d m.1 rfl zag_rf
  have e1 : m4.1 = M1 := by rw [h] at f1; exact (Prod.mk.inj (Option.some.inj f1)).2
  subst e1
  intro a ha j
  exact (f5 a (Or.inl (decide_eq_false (by omega))) j).symm
theorem zsm_tr {m1 m2 m3 : ZN} (h1 : zsm m1 m2) (h2 : zsm m2 m3) : zsm m1 m3 := fun a ha j => (h1 a ha j).trans (h2 a ha j)
theorem zsm_sy {m1 m2 : ZN} (h1 : zsm m1 m2) : zsm m2 m1 := fun a ha j => (h1 a ha j).symm
def zarg (R : Int → Bool) : ZS → Bool
  | [] => true
  | .inr (.inr a) :: r => R a && zarg R r
  | _ :: r => zarg R r
theorem zarg_ok {R : Int → Bool} : ∀ {st : ZS}, zarg R st = true → zSR R st
  | [], _ => zSR_n.mpr trivial
  | .inl _ :: _, h => zSR_c.mpr ⟨trivial, zarg_ok h⟩
  | .inr (.inl _) :: _, h => zSR_c.mpr ⟨trivial, zarg_ok h⟩
  | .inr (.inr _) :: _, h => zSR_c.mpr ⟨((Bool.and_eq_true _ _).mp h).1, zarg_ok ((Bool.and_eq_true _ _).mp h).2⟩
theorem zcI_c {d k : Nat} {args : ZS} {m m2 : ZN} {K : Int → ZN → Prop} (hk : zSc k = true) (ha : zarg zcls args = true) (hm : zsm m m2) (h : zcI d k args m2 K) : zcI d k args m (fun v m3 => ∃ m4, zsm m3 m4 ∧ K v m4) := by
  obtain ⟨n, x, m4, h1, h2⟩ := h
  obtain ⟨m3, f1, f2, _⟩ := zrun_c h1 hk (zLR_entry (zarg_ok ha)) (zSR_n.mpr trivial) hm
  exact ⟨n, x, m3, f1, m4, f2, h2⟩
theorem zcV_c {d k : Nat} {args : ZS} {m m2 : ZN} {K : ZN → Prop} (hk : zSc k = true) (ha : zarg zcls args = true) (hm : zsm m m2) (h : zcV d k args m2 K) : zcV d k args m (fun m3 => ∃ m4, zsm m3 m4 ∧ K m4) := by
  obtain ⟨n, m4, h1, h2⟩ := h
  obtain ⟨m3, f1, f2, _⟩ := zrun_c h1 hk (zLR_entry (zarg_ok ha)) (zSR_n.mpr trivial) hm
  exact ⟨n, m3, f1, m4, f2, h2⟩
/-- a pair, seen from the class' side alone -/
theorem zcI_p {d d2 k k2 : Nat} {args args2 : ZS} {m m2 : ZN} {Q : Int → Int → ZN → Prop} (hk : zSc k = true) (ha : zarg zcls args = true) (hk2 : zSr k2 = true) (ha2 : zarg zref args2 = true) (hm : zsm m m2) (h : zcI d k args m2 (fun v m1 => zcI d2 k2 args2 m1 (fun v2 m3 => Q v v2 m3))) : zcI d k args m (fun v m3 => ∃ m4 v2, zsm m3 m4 ∧ Q v v2 m4) := by
  obtain ⟨n, x, m4, h1, n2, y, m5, h2, h3⟩ := h
  obtain ⟨m3, f1, f2, _⟩ := zrun_c h1 hk (zLR_entry (zarg_ok ha)) (zSR_n.mpr trivial) hm
  have g := zrun_r h2 hk2 (zLR_entry (zarg_ok ha2)) (zSR_n.mpr trivial)
  exact ⟨n, x, m3, f1, m5, y, zsm_tr f2 (zsm_sy g), h3⟩
