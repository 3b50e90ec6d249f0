/-! ===== the tape's size, through calls ===== -/
def zSu (k : Nat) : Bool := Nat.ble 1000 k || ((Nat.blt k 190 || (Nat.ble 319 k && Nat.blt k 328)) && !zelem [104, 105, 106, 113, 125, 128, 324] k)
theorem zck_u : ∀ k, k < 328 → zSu k = true → (zinsT k).all (fun e => ztI zSu k e.2.1) = true := by decide +kernel
theorem zsu_in : ∀ k pc i len, zSu k = true → zins k pc = some (i, len) → ztI zSu k i = true := fun k pc i len hk e => by
  by_cases q : k < 328
  · exact List.all_eq_true.mp (zck_u k q hk) _ (zlk_mem _ _ _ e)
  · have hb : Nat.ble 1000 k = true := by
      unfold zSu at hk
      rw [Bool.or_eq_true] at hk
      rcases hk with h | h
      · exact h
      · obtain ⟨h1, -⟩ := (Bool.and_eq_true _ _).mp h
        rw [Bool.or_eq_true] at h1
        rcases h1 with h1 | h1
        · have : k + 1 ≤ 190 := Nat.le_of_ble_eq_true h1
          omega
        · have : k + 1 ≤ 328 := Nat.le_of_ble_eq_true ((Bool.and_eq_true _ _).mp h1).2
          omega
    have hk9 : 1000 ≤ k := Nat.le_of_ble_eq_true hb
    have h40 : 9 ≤ k / 40 := by omega
    have e0 : zinsT k = [] := by
      unfold zinsT
      split <;> first | rfl | omega
    unfold zins at e
    rw [e0] at e
    cases e
theorem zcI_t {d k : Nat} {args : ZS} {m : ZN} {K : Int → ZN → Prop} (hk : zSu k = true) (h : zcI d k args m K) : zcI d k args m (fun v m1 => K v m1 ∧ zr m1 216 1 = zr m 216 1) := by
  obtain ⟨n, x, m1, h1, h2⟩ := h
  have t := zbody_tp zsu_in (fun t ht => by unfold zSu; rw [show Nat.ble 1000 t = true from Nat.ble_eq_true_of_le ht]; rfl) n _ _ _ _ _ _ _ h1 hk (m.2 (-1) 0 236 rfl)
  exact ⟨n, x, m1, h1, h2, t.2⟩
