section MPast
variable {σ : Sg} {I I' J I1 I2 : Nat → Nat → Int32} {L L' L1 L2 : Nat → Nat → Int64}
theorem ld438 {k : Nat} (hk' : k < 83) : ldI 438 (nI k) (hk σ I L) = some (I 438 k) := by rw [ldI_ok (n := 83) rfl hk' (by omega), hpI_hk]
theorem ld439 {k : Nat} (hk' : k < 1328) : ldI 439 (nI k) (hk σ I L) = some (I 439 k) := by rw [ldI_ok (n := 1328) rfl hk' (by omega), hpI_hk]
theorem ld440 {k : Nat} (hk' : k < 166) : ldI 440 (nI k) (hk σ I L) = some (I 440 k) := by rw [ldI_ok (n := 166) rfl hk' (by omega), hpI_hk]
theorem st438 {k : Nat} (r : Nat → Int32) (v : Int32) (hk' : k < 83) : stI 438 (nI k) v (hk σ (rowUp I 438 r) L) = some (hk σ (rowUp I 438 (updA r k v)) L) := by
  rw [stI_ok (n := 83) rfl hk' (by omega), setI_hk, rowUp_two, hpI_hk', rowUp_same]
theorem st439 {k : Nat} (r : Nat → Int32) (v : Int32) (hk' : k < 1328) : stI 439 (nI k) v (hk σ (rowUp I 439 r) L) = some (hk σ (rowUp I 439 (updA r k v)) L) := by
  rw [stI_ok (n := 1328) rfl hk' (by omega), setI_hk, rowUp_two, hpI_hk', rowUp_same]
theorem st440 {k : Nat} (r : Nat → Int32) (v : Int32) (hk' : k < 166) : stI 440 (nI k) v (hk σ (rowUp I 440 r) L) = some (hk σ (rowUp I 440 (updA r k v)) L) := by
  rw [stI_ok (n := 166) rfl hk' (by omega), setI_hk, rowUp_two, hpI_hk', rowUp_same]
theorem g8 {J : Nat → Nat → Int32} : gI 12 8 433 (hk σ J L) = some (J 433 8) := by rw [gI_ok s433, hpI_hk]
/-- makes -/
def mkn (N : Nat → Nat) (f how so : Nat) : Nat → Nat := updA (updA N f how) (8 + f) so
end MPast
