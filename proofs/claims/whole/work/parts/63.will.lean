/-! ===== wills: no number up to 1008 has more than 32 divisors from 2 on ===== -/
def nD (A : Nat) : Nat → Nat
  | 0 => 0
  | a + 1 => bif (Nat.ble 2 a && Nat.beq (A % a) 0) then nD A a + 1 else nD A a
def nDall (lo : Nat) : Nat → Bool
  | 0 => true
  | k + 1 => Nat.ble (nD (lo + k) (lo + k + 1)) 32 && nDall lo k
theorem nDall_0 : nDall 0 350 = true := by decide +kernel
theorem nDall_350 : nDall 350 150 = true := by decide +kernel
theorem nDall_500 : nDall 500 120 = true := by decide +kernel
theorem nDall_620 : nDall 620 100 = true := by decide +kernel
theorem nDall_720 : nDall 720 80 = true := by decide +kernel
theorem nDall_800 : nDall 800 80 = true := by decide +kernel
theorem nDall_880 : nDall 880 70 = true := by decide +kernel
theorem nDall_950 : nDall 950 59 = true := by decide +kernel
theorem nD_le : ∀ {lo n : Nat}, nDall lo n = true → ∀ A, lo ≤ A → A < lo + n → nD A (A + 1) ≤ 32
  | lo, 0, h, A, h0, hA => by omega
  | lo, n + 1, h, A, h0, hA => by
    unfold nDall at h
    rw [Bool.and_eq_true] at h
    by_cases e : A = lo + n
    · rw [e]; exact Nat.le_of_ble_eq_true h.1
    · exact nD_le h.2 A h0 (by omega)
theorem nD_32 (A : Nat) (hA : A ≤ 1008) : nD A (A + 1) ≤ 32 := by
  by_cases h0 : A < 350
  · exact nD_le nDall_0 A (by omega) (by omega)
  by_cases h350 : A < 500
  · exact nD_le nDall_350 A (by omega) (by omega)
  by_cases h500 : A < 620
  · exact nD_le nDall_500 A (by omega) (by omega)
  by_cases h620 : A < 720
  · exact nD_le nDall_620 A (by omega) (by omega)
  by_cases h720 : A < 800
  · exact nD_le nDall_720 A (by omega) (by omega)
  by_cases h800 : A < 880
  · exact nD_le nDall_800 A (by omega) (by omega)
  by_cases h880 : A < 950
  · exact nD_le nDall_880 A (by omega) (by omega)
  by_cases h950 : A < 1009
  · exact nD_le nDall_950 A (by omega) (by omega)
  omega
