/-! ===== how many are cached in a set ===== -/
section TAG
variable {k : zK} {B : Nat} {a : zA}
def zIT (k : zK) (a : zA) : Prop := ∀ s, s < k.1 → aTags k a s 99 ≤ k.2.1
theorem aFg_U (a : zA) (q : Nat) : aU (aFg a q) = nup (aU a) q 0 := rfl
theorem aFg_S {k : zK} {a : zA} {q x : Nat} : aS k (aFg a q) x = aS k a x := by
  unfold aS aLw
  rw [aFg_W]
theorem aCs_fg {s bn q : Nat} : aCs k (aFg a q) s bn = (aCs k a s bn).filter (fun x => !decide (x = q)) := by
  unfold aCs
  rw [List.filter_filter]
  refine List.filter_congr (fun x _ => ?_)
  unfold aCd
  rw [aFg_U]
  unfold nup
  by_cases c : x = q <;> simp [c]
theorem aTags_fg {s bn q : Nat} : aTags k (aFg a q) s bn ≤ aTags k a s bn := by
  unfold aTags
  rw [aCs_fg]
  exact List.length_filter_le _ _
theorem aTags_fg_lt {s bn q : Nat} (h : q ∈ aCs k a s bn) : aTags k (aFg a q) s bn < aTags k a s bn := by
  unfold aTags
  rw [aCs_fg]
  exact List.length_filter_lt_length_iff_exists.mpr ⟨q, h, by simp⟩
theorem aMr_room {s l need : Nat} (hk : zKok k) (hn : need ≤ 4) : ∀ (n : Nat) (a : zA) (v b : Nat), aTags k a s l ≤ n → aTags k (aMr k s l need n a v b).1 s l < k.2.1 ∧ aTak k (aMr k s l need n a v b).1 s l + need ≤ k.2.2.1 := by
  obtain ⟨k1, k2, k3, k4, k5, k6⟩ := hk
  intro n
  induction n with
  | zero =>
    intro a v b h
    have e : aCs k a s l = [] := List.length_eq_zero_iff.mp (by unfold aTags at h; omega)
    show aTags k a s l < _ ∧ aTak k a s l + _ ≤ _
    unfold aTags aTak
    rw [e]
    simp
    omega
  | succ n ih =>
    intro a v b h
    unfold aMr
    by_cases c : aTags k a s l < k.2.1 ∧ aTak k a s l + need ≤ k.2.2.1
    · rw [if_pos c]; exact c
    · rw [if_neg c]
      cases hv : aVic k a s l with
      | none =>
        have e : aCs k a s l = [] := (zvf_none hv).2
        exfalso
        apply c
        unfold aTags aTak
        rw [e]
        simp
        omega
      | some q =>
        exact ih (aFg a q) (v + 1) (b + aD a q) (by have := aTags_fg_lt (aVic_in hv).2.2.2; omega)
theorem zlin_len {st : Nat} : ∀ (m l : Nat), (zlin st m l).length ≤ m
  | 0, _ => by simp [zlin]
  | m + 1, l => by
    unfold zlin
    split
    · rw [List.length_cons]; have := zlin_len (st := st) m (l + st); omega
    · simp
theorem aTags_le (k : zK) (a : zA) (s bn : Nat) : aTags k a s bn ≤ 32 := by
  unfold aTags aCs
  exact Nat.le_trans (List.length_filter_le _ _) (zlin_len 32 s)
theorem aMr_T {s l need s2 bn : Nat} : ∀ (n : Nat) (a : zA) (v b : Nat), aTags k (aMr k s l need n a v b).1 s2 bn ≤ aTags k a s2 bn
  | 0, _, _, _ => Nat.le_refl _
  | n + 1, a, v, b => by
    unfold aMr
    split
    · exact Nat.le_refl _
    · split
      · exact Nat.le_refl _
      · rename_i q hq
        exact Nat.le_trans (aMr_T n (aFg a q) (v + 1) (b + aD a q)) aTags_fg
theorem zcnt_split {p : Nat → Bool} {l : Nat} : ∀ {L : List Nat}, L.Nodup → ((L.filter p).length ≤ (L.filter (fun x => p x && !decide (x = l))).length + (if l ∈ L then 1 else 0))
  | [], _ => by simp
  | y :: L, h => by
    have hn := List.nodup_cons.mp h
    have ih := zcnt_split (p := p) (l := l) hn.2
    rw [List.filter_cons, List.filter_cons]
    by_cases c : y = l
    · have hl : l ∉ L := by rw [← c]; exact hn.1
      rw [if_neg hl] at ih
      rw [if_pos (show l ∈ y :: L by rw [c]; exact List.mem_cons_self)]
      rw [decide_eq_true c, Bool.not_true, Bool.and_false, if_neg (show ¬ false = true by decide)]
      split
      · rw [List.length_cons]; omega
      · omega
    · have e : (l ∈ y :: L) ↔ l ∈ L := by
        rw [List.mem_cons]
        exact ⟨fun z => z.resolve_left (fun q => c q.symm), Or.inr⟩
      rw [decide_eq_false c, Bool.not_false, Bool.and_true]
      simp only [e]
      split
      · rw [List.length_cons, List.length_cons]; omega
      · exact ih
theorem aCd_split (a : zA) {l x : Nat} (hx : x < 32) : aCd a l x = (aCd a 99 x && !decide (x = l)) := by
  have : ¬ x = 99 := by omega
  unfold aCd
  simp [this]
theorem zlin_nodup {st m l : Nat} (h0 : 0 < st) : (zlin st m l).Nodup := (zlin_sorted h0).imp (fun h => Nat.ne_of_lt h)
theorem aTags_split (h0 : 0 < k.1) {s l : Nat} : aTags k a s 99 ≤ aTags k a s l + (if l ∈ zlin k.1 32 s then 1 else 0) := by
  have := zcnt_split (p := aCd a 99) (l := l) (zlin_nodup (st := k.1) (m := 32) (l := s) h0)
  unfold aTags aCs
  rw [zfilt (q := fun x => aCd a 99 x && !decide (x = l)) (fun x hx => aCd_split a hx)]
  exact this
end TAG
