/-! ===== the pure part: numbers, evaluation of the printed words ===== -/
theorem zl (n : Nat) : (OfNat.ofNat n : Int32) = nI n := rfl
theorem zl0 : (0 : Int32) = nI 0 := rfl
theorem zl1 : (1 : Int32) = nI 1 := rfl
theorem zald_n {α β : Type} {f : Nat → α} {n i : Nat} {K : α → Option β} (h : i < n) (hn : n < 2 ^ 31) : zald f n (nI i) K = K (f i) := by
  have h1 : vp_in (nI i) n := vp_in_nI h hn
  unfold zald
  rw [if_neg h1, nI_clamp (by omega)]
theorem zast_n {β : Type} {f : Nat → Int32} {n i : Nat} {v : Int32} {K : (Nat → Int32) → Option β} (h : i < n) (hn : n < 2 ^ 31) : zast f n (nI i) v K = K (upd f i v) := by
  have h1 : vp_in (nI i) n := vp_in_nI h hn
  unfold zast
  rw [if_neg h1, nI_clamp (by omega)]
theorem nI_inj0 {d : Nat} (h0 : 0 < d) (hd : d < 2 ^ 31) : ¬ nI d = 0 := nI_ne0 h0 hd
theorem zdiv_n {β : Type} {a d : Nat} {K : Int32 → Option β} (ha : a < 2 ^ 31) (h0 : 0 < d) (hd : d < 2 ^ 31) : zdiv (nI a) (nI d) K = K (nI (a / d)) := by
  unfold zdiv
  rw [if_neg (nI_ne0 h0 hd), pk_div ha h0 hd]
theorem zrem_n {β : Type} {a d : Nat} {K : Int32 → Option β} (ha : a < 2 ^ 31) (h0 : 0 < d) (hd : d < 2 ^ 31) : zrem (nI a) (nI d) K = K (nI (a % d)) := by
  unfold zrem
  rw [if_neg (nI_ne0 h0 hd), pk_rem ha h0 hd]
theorem zbl_n0 {β : Type} {K : Option β} : zbl 0 K = K := by unfold zbl; simp
theorem zbl_n1 {β : Type} {K : Option β} : zbl 1 K = K := by unfold zbl; simp
theorem zbl_b {β : Type} {v : Int32} {K : Option β} (h : v = 0 ∨ v = 1) : zbl v K = K := by unfold zbl; rw [if_pos h]
theorem zlet_e {α β : Type} {v : α} {K : α → Option β} : zlet v K = K v := rfl
theorem zcpy_n {β : Type} {f g : Nat → Int32} {n0 n1 sp dp n : Nat} {K : (Nat → Int32) → Option β} (h1 : sp + n ≤ n0) (h2 : dp + n ≤ n1) (h3 : n0 < 2 ^ 31) (h4 : n1 < 2 ^ 31) : zcpy f g n0 n1 (nI sp) (nI dp) (nI n) K = K (va_cpy f g sp dp n) := by
  unfold zcpy
  rw [nI_clamp (n := sp) (by omega), nI_clamp (n := dp) (by omega), nI_clamp (n := n) (by omega), if_neg]
  rintro (h | h | h | h | h)
  · exact nI_pos (by omega) h
  · exact nI_pos (by omega) h
  · exact nI_pos (by omega) h
  · omega
  · omega
/-- 32-bit numbers by their integers -/
theorem i_lt {a b : Int32} : a < b ↔ a.toInt < b.toInt := Int32.lt_iff_toInt_lt
theorem i_le {a b : Int32} : a ≤ b ↔ a.toInt ≤ b.toInt := Int32.le_iff_toInt_le
theorem i_eq {a b : Int32} : a = b ↔ a.toInt = b.toInt := ⟨fun h => by rw [h], fun h => Int32.toInt_inj.mp h⟩
theorem nI_le0 {n : Nat} (h : n < 2 ^ 31) : nI n ≤ 0 ↔ n = 0 := by
  rw [show (0 : Int32) = nI 0 from rfl, nI_leI h (by omega)]
  omega
theorem zF_gt {n : Nat} (h : n < 20000) : n < zF := Nat.lt_of_lt_of_le h zF_ge
theorem zF_suc : ∃ n, zF = n + 1 ∧ 19999 ≤ n := ⟨zF - 1, by have := zF_ge; omega, by have := zF_ge; omega⟩
/-- the lines of a set from l on -/
def zlin (st : Nat) : Nat → Nat → List Nat
  | 0, _ => []
  | m + 1, l => if l < 32 then l :: zlin st m (l + st) else []
theorem zlin_lt {st : Nat} : ∀ {m l x : Nat}, x ∈ zlin st m l → x < 32 ∧ l ≤ x ∧ (x - l) % st = 0
  | 0, l, x, h => by simp [zlin] at h
  | m + 1, l, x, h => by
    unfold zlin at h
    split at h
    · rcases List.mem_cons.mp h with rfl | h
      · exact ⟨by assumption, Nat.le_refl _, by simp⟩
      · obtain ⟨h1, h2, h3⟩ := zlin_lt h
        refine ⟨h1, by omega, ?_⟩
        have : x - l = (x - (l + st)) + st := by omega
        rw [this, Nat.add_mod_right]
        exact h3
    · cases h
theorem zlin_mem {st : Nat} (h0 : 0 < st) : ∀ {m l x : Nat}, 32 ≤ l + m → x < 32 → l ≤ x → (x - l) % st = 0 → x ∈ zlin st m l
  | 0, l, x, h, h1, h2, _ => by omega
  | m + 1, l, x, h, h1, h2, h3 => by
    unfold zlin
    rw [if_pos (by omega)]
    rcases Nat.lt_or_ge l x with hl | hl
    · refine List.mem_cons_of_mem _ (zlin_mem h0 (by omega) h1 ?_ ?_)
      · rcases Nat.lt_or_ge x (l + st) with hx | hx
        · have : (x - l) % st = x - l := Nat.mod_eq_of_lt (by omega)
          omega
        · exact hx
      · rcases Nat.lt_or_ge x (l + st) with hx | hx
        · have : (x - l) % st = x - l := Nat.mod_eq_of_lt (by omega)
          omega
        · have : x - l = (x - (l + st)) + st := by omega
          rw [this, Nat.add_mod_right] at h3
          exact h3
    · have : x = l := by omega
      rw [this]
      exact List.mem_cons_self
theorem zlin_sorted {st : Nat} (h0 : 0 < st) : ∀ {m l : Nat}, (zlin st m l).Pairwise (· < ·)
  | 0, l => by simp [zlin]
  | m + 1, l => by
    unfold zlin
    split
    · refine List.pairwise_cons.mpr ⟨fun x hx => ?_, zlin_sorted h0⟩
      have := (zlin_lt hx).2.1
      omega
    · exact List.Pairwise.nil
