section MH
variable {σ : Sg} {I : Nat → Nat → Int32} {L : Nat → Nat → Int64}
theorem nI_div {a b : Nat} (ha : a < 2147483648) (hb0 : 0 < b) (hb : b < 2147483648) : nI a / nI b = nI (a / b) := by
  apply Int32.toInt_inj.mp
  have h1 : (nI b).toInt = (b : Int) := nI_toInt hb
  have h2 : a / b ≤ a := Nat.div_le_self _ _
  rw [Int32.toInt_div, nI_toInt ha, h1, nI_toInt (by omega)]
  show ((a / b : Nat) : Int).bmod (2 ^ 32) = _
  generalize a / b = q at h2 ⊢
  exact Int.bmod_eq_of_le (by omega) (by omega)
theorem nI_d100 {a : Nat} (ha : a < 2147483648) : nI a / 100 = nI (a / 100) := nI_div (b := 100) ha (by omega) (by omega)
theorem nI_d10 {a : Nat} (ha : a < 2147483648) : nI a / 10 = nI (a / 10) := nI_div (b := 10) ha (by omega) (by omega)
theorem nI_m100 {a : Nat} (ha : a < 2147483648) : nI a - nI a / 100 * 100 = nI (a % 100) := by
  rw [nI_d100 ha, show (100 : Int32) = nI 100 from rfl, pk_mul, nI_sub (by omega)]; congr 1; omega
theorem nI_m10 {a : Nat} (ha : a < 2147483648) : nI a - nI a / 10 * 10 = nI (a % 10) := by
  rw [nI_d10 ha, show (10 : Int32) = nI 10 from rfl, pk_mul, nI_sub (by omega)]; congr 1; omega
theorem nI_m100' {a : Nat} (ha : a < 2147483648) : nI a - nI (a / 100) * 100 = nI (a % 100) := by rw [← nI_d100 ha]; exact nI_m100 ha
theorem nI_m10' {a : Nat} (ha : a < 2147483648) : nI a - nI (a / 10) * 10 = nI (a % 10) := by rw [← nI_d10 ha]; exact nI_m10 ha
theorem bit_n {w f : Nat} (hw : w < 2147483648) (hf : f < 32) : (nI w >>> (nI f &&& 31)) &&& 1 = bI (w.testBit f) := by
  rw [shr_n hw hf, nx_a1, Nat.testBit_shiftRight, Nat.add_zero]
theorem bI_n (b : Bool) : bI b = nI (if b = true then 1 else 0) := by cases b <;> rfl
theorem bI_and (a b : Bool) : bI a &&& bI b = bI (a && b) := by cases a <;> cases b <;> rfl
theorem bI_or (a b : Bool) : bI a ||| bI b = bI (a || b) := by cases a <;> cases b <;> rfl
theorem bI_not (a : Bool) : 1 - bI a = bI (!a) := by cases a <;> rfl
theorem nI_bI (a : Nat) (b : Bool) : nI a + bI b = nI (a + (if b = true then 1 else 0)) := by rw [bI_n, nI_add]
/-- places below the height hold a value or its contrary -/
def cmpl (h : Nat) (v : VP) : Prop := ∀ i, i < h → (v i).2 = !(v i).1
theorem cnt_compl (f g : Nat → Bool) (m : Nat) (h : ∀ i, i < m → g i = !f i) : cntB f m + cntB g m = m := by
  induction m with
  | zero => rfl
  | succ m ih =>
    simp only [cntB]
    have := ih fun i hi => h i (by omega)
    rw [h m (by omega)]
    cases f m <;> simp <;> omega
theorem cmpl_stp {q : VP} (hq : ∀ f, (q f).2 = !(q f).1) {c h : Nat} {v : VP} (hok' : hok c h = true) (hv : cmpl h v) : cmpl (hst c h) (stp q c (h, v)).2 := by
  intro i hi
  unfold hok at hok'
  unfold hst at hi
  unfold stp
  by_cases k0 : c / 100 = 0
  · rw [if_pos k0] at hi hok' ⊢
    simp only [updA_at]
    by_cases e : i = h
    · rw [if_pos e]; exact hq _
    · rw [if_neg e]; exact hv i (by omega)
  · rw [if_neg k0] at hi hok' ⊢
    by_cases k1 : c / 100 = 1
    · rw [if_pos k1] at hi hok' ⊢
      have hf := of_decide_eq_true hok'
      simp only [updA_at]
      by_cases e : i = h - 1
      · rw [if_pos e, hv (h - 1) (by omega)]; simp
      · rw [if_neg e]; exact hv i (by omega)
    · rw [if_neg k1] at hi hok' ⊢
      by_cases k4 : c / 100 = 4
      · rw [if_pos k4] at hi hok' ⊢
        have hf := of_decide_eq_true hok'
        simp only [updA_at]
        by_cases e : i = h - c % 10
        · rw [if_pos e]
          have := cnt_compl (fun i => (v (h - c % 10 + i)).1) (fun i => (v (h - c % 10 + i)).2) (c % 10) (fun i hi => hv _ (by omega))
          simp only [decide_eq_decide, ← decide_not]
          omega
        · rw [if_neg e]; exact hv i (by omega)
      · rw [if_neg k4] at hi hok' ⊢
        have hf := of_decide_eq_true hok'
        by_cases k2 : c / 100 = 2
        · rw [if_pos k2]
          simp only [updA_at]
          by_cases e : i = h - 2
          · rw [if_pos e, hv (h - 2) (by omega), hv (h - 1) (by omega)]; simp
          · rw [if_neg e]; exact hv i (by omega)
        · rw [if_neg k2]
          simp only [updA_at]
          by_cases e : i = h - 2
          · rw [if_pos e, hv (h - 2) (by omega), hv (h - 1) (by omega)]; simp
          · rw [if_neg e]; exact hv i (by omega)
theorem hok_lt {c h : Nat} (hk' : hok c h = true) : c < 500 := by
  unfold hok at hk'
  by_cases k0 : c / 100 = 0
  · omega
  · rw [if_neg k0] at hk'
    by_cases k1 : c / 100 = 1
    · omega
    · rw [if_neg k1] at hk'
      by_cases k4 : c / 100 = 4
      · omega
      · rw [if_neg k4] at hk'
        have := (of_decide_eq_true hk').2
        omega
def pileOk (P : Nat → Int32) (h : Nat) (v : VP) : Prop := ∀ i, i < h → P i = bI (v i).1
end MH
