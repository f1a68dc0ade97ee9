/-! ===== bits ===== -/
theorem fa_or (a b : Nat) : nI a ||| nI b = nI (a ||| b) := by
  apply Int32.toBitVec_inj.1
  show BitVec.ofNat 32 a ||| BitVec.ofNat 32 b = BitVec.ofNat 32 (a ||| b)
  apply BitVec.eq_of_getLsbD_eq
  intro i hi
  simp [hi]
theorem fa_and (a b : Nat) : nI a &&& nI b = nI (a &&& b) := by
  apply Int32.toBitVec_inj.1
  show BitVec.ofNat 32 a &&& BitVec.ofNat 32 b = BitVec.ofNat 32 (a &&& b)
  apply BitVec.eq_of_getLsbD_eq
  intro i hi
  simp [hi]
theorem zsh31 : ∀ j : Fin 32, ((nI j.val &&& 31).toBitVec.smod 32).toNat = j.val := by decide +kernel
theorem nI_shr {n j : Nat} (hn : n < 2 ^ 31) (hj : j < 32) : nI n >>> (nI j &&& 31) = nI (n / 2 ^ j) := by
  apply Int32.toInt_inj.mp
  have hle : n / 2 ^ j ≤ n := Nat.div_le_self _ _
  rw [pk_shr _ _ j (zsh31 ⟨j, hj⟩), nI_toInt hn, nI_toInt (by omega), Int.shiftRight_eq_div_pow]
  simp
theorem zbt_n {n j : Nat} (hn : n < 2 ^ 31) (hj : j < 32) : zbt (nI n) j = n.testBit j := by
  unfold zbt
  rw [nI_shr hn hj, pk_andN (Nat.lt_of_le_of_lt (Nat.div_le_self _ _) (by omega)) 1 (by decide), Nat.testBit_eq_decide_div_mod_eq]
  refine decide_eq_decide.mpr ?_
  rw [show (1 : Int32) = nI 1 from rfl, nI_eq (by omega) (by omega)]
theorem nI_shl1 {j : Nat} (hj : j < 31) : (1 : Int32) <<< (nI j &&& 31) = nI (2 ^ j) := by
  have h2 : (2 : Nat) ^ j < 2 ^ 31 := Nat.pow_lt_pow_right (by decide) hj
  rw [show (1 : Int32) = nI 1 from rfl, pk_shlN _ j (zsh31 ⟨j, by omega⟩) (by omega), Nat.one_mul]
/-- a set of numbers, as bits -/
def zFb (f : Nat → Bool) : Nat → Nat → Nat → Nat
  | 0, _, n => n
  | m + 1, i, n => zFb f m (i + 1) (if f i then n ||| 2 ^ i else n)
theorem zFb_bit (f : Nat → Bool) : ∀ (m i n j : Nat), (zFb f m i n).testBit j = (n.testBit j || (decide (i ≤ j ∧ j < i + m) && f j))
  | 0, i, n, j => by
    have : ¬ (i ≤ j ∧ j < i + 0) := by omega
    rw [decide_eq_false this]
    simp [zFb]
  | m + 1, i, n, j => by
    unfold zFb
    rw [zFb_bit f m (i + 1)]
    by_cases c : i = j
    · subst c
      have h1 : ¬ (i + 1 ≤ i ∧ i < i + 1 + m) := by omega
      have h2 : i ≤ i ∧ i < i + (m + 1) := by omega
      rw [decide_eq_false h1, decide_eq_true h2]
      cases hf : f i
      · simp
      · simp [Nat.testBit_or, Nat.testBit_two_pow]
    · have h3 : decide (i + 1 ≤ j ∧ j < i + 1 + m) = decide (i ≤ j ∧ j < i + (m + 1)) := decide_eq_decide.mpr (by omega)
      rw [h3]
      cases hf : f i
      · simp
      · simp [Nat.testBit_or, Nat.testBit_two_pow, c]
theorem zFb_lt (f : Nat → Bool) : ∀ (m i n : Nat), i + m ≤ 16 → n < 2 ^ 16 → zFb f m i n < 2 ^ 16
  | 0, i, n, _, h => h
  | m + 1, i, n, hi, h => by
    unfold zFb
    refine zFb_lt f m (i + 1) _ (by omega) ?_
    split
    · exact Nat.or_lt_two_pow h (Nat.pow_lt_pow_right (by decide) (by omega))
    · exact h
/-- those of the numbers from i on, m many, of which f -/
def zrun (f : Nat → Bool) (i m : Nat) : List Nat := (List.range' i m).filter f
theorem zrun_0 {f : Nat → Bool} {i : Nat} : zrun f i 0 = [] := rfl
theorem zrun_t {f : Nat → Bool} {i m : Nat} (h : f i = true) : zrun f i (m + 1) = i :: zrun f (i + 1) m := by
  unfold zrun
  rw [List.range'_succ, List.filter_cons, if_pos h]
theorem zrun_f {f : Nat → Bool} {i m : Nat} (h : f i = false) : zrun f i (m + 1) = zrun f (i + 1) m := by
  unfold zrun
  rw [List.range'_succ, List.filter_cons, h]
  rfl
theorem zrun_len {f : Nat → Bool} {i m : Nat} : (zrun f i m).length ≤ m := by
  unfold zrun
  exact Nat.le_trans (List.length_filter_le _ _) (by simp)
theorem zrun_mem {f : Nat → Bool} {i m j : Nat} : j ∈ zrun f i m ↔ (i ≤ j ∧ j < i + m) ∧ f j = true := by
  unfold zrun
  rw [List.mem_filter, List.mem_range'_1]
theorem zrun_bits {f : Nat → Bool} {n : Nat} (hn : n ≤ 16) : zrun (fun j => (zFb f n 0 0).testBit j) 0 16 = zrun f 0 n := by
  have h1 : List.range' 0 16 = List.range' 0 n ++ List.range' n (16 - n) := by
    have := List.range'_append_1 (s := 0) (m := n) (n := 16 - n)
    rw [show 0 + n = n by omega, show n + (16 - n) = 16 by omega] at this
    exact this.symm
  unfold zrun
  rw [h1, List.filter_append]
  have h2 : (List.range' n (16 - n)).filter (fun j => (zFb f n 0 0).testBit j) = [] := List.filter_eq_nil_iff.mpr (fun j hj => by
    have hj' := List.mem_range'_1.mp hj
    have : ¬ (0 ≤ j ∧ j < 0 + n) := by omega
    rw [zFb_bit, decide_eq_false this]
    simp)
  have h3 : (List.range' 0 n).filter (fun j => (zFb f n 0 0).testBit j) = (List.range' 0 n).filter f := List.filter_congr (fun j hj => by
    have hj' := List.mem_range'_1.mp hj
    have : 0 ≤ j ∧ j < 0 + n := by omega
    rw [zFb_bit, decide_eq_true this]
    simp)
  rw [h2, h3, List.append_nil]
/-- how many bits -/
def zpc (n : Nat) : Nat := (zrun (fun j => n.testBit j) 0 16).length
def zbc (n : Nat) : Nat :=
  let a := n - ((n >>> 1) &&& 1431655765)
  let b := (a &&& 858993459) + ((a >>> 2) &&& 858993459)
  let c := (b + b >>> 4) &&& 252645135
  let d := c + c >>> 8
  (d + d >>> 16) &&& 63
def zpd (n : Nat) : Nat := n % 2 + n / 2 % 2 + n / 4 % 2 + n / 8 % 2 + n / 16 % 2 + n / 32 % 2 + n / 64 % 2 + n / 128 % 2 + n / 256 % 2 + n / 512 % 2 + n / 1024 % 2 + n / 2048 % 2 + n / 4096 % 2 + n / 8192 % 2 + n / 16384 % 2 + n / 32768 % 2
def zbk : Nat → Nat → Bool
  | 0, n => zbc n == zpd n
  | k + 1, n => zbk k (2 * n) && zbk k (2 * n + 1)
theorem zbk_of : ∀ {k n j : Nat}, zbk k n = true → j / 2 ^ k = n → zbc j = zpd j
  | 0, n, j, h, e => by
    have : j = n := by simpa using e
    rw [this]
    exact beq_iff_eq.mp h
  | k + 1, n, j, h, e => by
    unfold zbk at h
    rw [Bool.and_eq_true] at h
    have e2 : j / 2 ^ k / 2 = n := by rw [Nat.div_div_eq_div_mul, ← Nat.pow_succ]; exact e
    rcases (show j / 2 ^ k = 2 * n ∨ j / 2 ^ k = 2 * n + 1 by omega) with q | q
    · exact zbk_of h.1 q
    · exact zbk_of h.2 q
theorem zbk_all : zbk 16 0 = true := by decide +kernel
theorem zt1 (n i : Nat) : (if n.testBit i = true then 1 else 0) = n / 2 ^ i % 2 := by
  rw [Nat.testBit_eq_decide_div_mod_eq]
  by_cases c : n / 2 ^ i % 2 = 1
  · rw [decide_eq_true c, if_pos rfl, c]
  · rw [decide_eq_false c, if_neg (by decide)]
    omega
theorem zpc_d (n : Nat) : zpc n = zpd n := by
  unfold zpc zrun
  rw [← List.countP_eq_length_filter, show List.range' 0 16 = [0, 1, 2, 3, 4, 5, 6, 7, 8, 9, 10, 11, 12, 13, 14, 15] from rfl]
  simp only [List.countP_cons, List.countP_nil, zt1]
  unfold zpd
  simp only [Nat.reducePow, Nat.div_one]
  omega
theorem nx_cnt : ∀ j : Fin 32, (UInt32.ofNat j.val &&& Int32.toUInt32 31).toNat % 32 = j.val := by decide +kernel
theorem nx_ush {k j : Nat} (hk : k < 2 ^ 32) (hj : j < 32) : ((nI k).toUInt32 >>> ((nI j).toUInt32 &&& Int32.toUInt32 31)).toInt32 = nI (k >>> j) := by
  have hs : k >>> j ≤ k := by
    rw [Nat.shiftRight_eq_div_pow]
    exact Nat.div_le_self _ _
  have e2 : UInt32.ofNat k >>> (UInt32.ofNat j &&& Int32.toUInt32 31) = UInt32.ofNat (k >>> j) := by
    apply UInt32.toNat_inj.1
    have h1 : (UInt32.ofNat k).toNat = k := Nat.mod_eq_of_lt (by omega)
    have h2 : (UInt32.ofNat (k >>> j)).toNat = k >>> j := Nat.mod_eq_of_lt (by omega)
    rw [UInt32.toNat_shiftRight, nx_cnt ⟨j, hj⟩, h1, h2]
  show (UInt32.ofNat k >>> (UInt32.ofNat j &&& Int32.toUInt32 31)).toInt32 = _
  rw [e2]
  rfl
theorem zsr_le (n j : Nat) : n >>> j ≤ n := by
  rw [Nat.shiftRight_eq_div_pow]
  exact Nat.div_le_self _ _
theorem pJ6_bitCount {n : Nat} (hn : n < 65536) : fJ6_bitCount_0f7a4 (nI n) = some (nI (zpc n)) := by
  have key : zbc n = zpd n := zbk_of zbk_all (by omega)
  rw [zpc_d, ← key]
  unfold fJ6_bitCount_0f7a4 zbc
  simp only [zlet_e]
  have b1 : (n >>> 1) &&& 1431655765 ≤ n := Nat.le_trans Nat.and_le_left (zsr_le n 1)
  rw [show Int32.toUInt32 1 = (nI 1).toUInt32 from rfl, nx_ush (by omega) (by omega), show (1431655765 : Int32) = nI 1431655765 from rfl, fa_and, pk_sub b1]
  generalize ha : n - (n >>> 1 &&& 1431655765) = a
  have b2 : a < 65536 := by omega
  rw [show Int32.toUInt32 2 = (nI 2).toUInt32 from rfl, nx_ush (k := a) (by omega) (by omega), show (858993459 : Int32) = nI 858993459 from rfl, fa_and, fa_and, nI_add]
  have b3 : (a &&& 858993459) ≤ a := Nat.and_le_left
  have b4 : (a >>> 2 &&& 858993459) ≤ a := Nat.le_trans Nat.and_le_left (zsr_le a 2)
  generalize hb : (a &&& 858993459) + (a >>> 2 &&& 858993459) = b
  rw [show Int32.toUInt32 4 = (nI 4).toUInt32 from rfl, nx_ush (k := b) (by omega) (by omega), nI_add, show (252645135 : Int32) = nI 252645135 from rfl, fa_and]
  have b5 := zsr_le b 4
  have b6 : (b + b >>> 4) &&& 252645135 ≤ b + b >>> 4 := Nat.and_le_left
  generalize hc : (b + b >>> 4) &&& 252645135 = c at *
  rw [show Int32.toUInt32 8 = (nI 8).toUInt32 from rfl, nx_ush (k := c) (by omega) (by omega), nI_add]
  have b7 := zsr_le c 8
  generalize hd : c + c >>> 8 = d at *
  rw [show Int32.toUInt32 16 = (nI 16).toUInt32 from rfl, nx_ush (k := d) (by omega) (by omega), nI_add, show (63 : Int32) = nI 63 from rfl, fa_and]
