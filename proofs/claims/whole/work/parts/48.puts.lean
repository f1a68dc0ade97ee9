/-! ===== the model's use and write ===== -/
section PUTS
variable {st wy : Nat} {wg : Bool} {B : Nat} {a : zA} {x : Nat → Int32}
theorem zsum_split {p : Nat → Bool} {f : Nat → Nat} {l : Nat} : ∀ {L : List Nat}, L.Nodup → l ∈ L → p l = true → ((L.filter p).map f).sum = ((L.filter (fun x => p x && !decide (x = l))).map f).sum + f l
  | [], _, h, _ => by cases h
  | y :: L, hn, h, hp => by
    have hn := List.nodup_cons.mp hn
    rw [List.filter_cons, List.filter_cons]
    by_cases c : y = l
    · have hl : l ∉ L := by rw [← c]; exact hn.1
      have e : L.filter (fun x => p x && !decide (x = l)) = L.filter p := List.filter_congr (fun x hx => by
        have : ¬ x = l := fun z => hl (by rw [← z]; exact hx)
        simp [this])
      rw [e, c, hp, if_pos rfl, decide_eq_true rfl, if_neg (by decide), List.map_cons, List.sum_cons]
      omega
    · have hl : l ∈ L := (List.mem_cons.mp h).resolve_left (fun z => c z.symm)
      have ih := zsum_split (p := p) (f := f) hn.2 hl hp
      rw [decide_eq_false c, Bool.not_false, Bool.and_true]
      split
      · rw [List.map_cons, List.sum_cons, List.map_cons, List.sum_cons, ih]; omega
      · exact ih
theorem zlen_sum (L : List Nat) : L.length = (L.map (fun _ => 1)).sum := by
  induction L with
  | nil => rfl
  | cons y L ih => rw [List.map_cons, List.sum_cons, List.length_cons, ih]; omega
theorem zin_set {l : Nat} (h0 : 0 < st) (hl : l < 32) : l ∈ zlin st 32 (l % st) := by
  refine zlin_mem h0 (by omega) hl (Nat.mod_le _ _) ?_
  have := Nat.div_add_mod l st
  rw [show l - l % st = st * (l / st) by omega]
  exact Nat.mul_mod_right _ _
theorem zset_in {l s : Nat} (hs : s < st) (h : l ∈ zlin st 32 s) : l % st = s := by
  obtain ⟨h1, h2, h3⟩ := zlin_lt h
  have h4 := Nat.div_add_mod (l - s) st
  rw [h3] at h4
  rw [show l = s + st * ((l - s) / st) by omega, Nat.add_mul_mod_self_left, Nat.mod_eq_of_lt hs]
theorem aTak_in {k : zK} (h0 : 0 < k.1) {l : Nat} (hl : l < 32) (hu : 0 < aU a l) : aTak k a (l % k.1) 99 = aTak k a (l % k.1) l + aS k a l := by
  have hp : aCd a 99 l = true := by
    have : ¬ l = 99 := by omega
    unfold aCd; simp [this]; exact hu
  have := zsum_split (p := aCd a 99) (f := aS k a) (zlin_nodup (st := k.1) (m := 32) (l := l % k.1) h0) (zin_set h0 hl) hp
  unfold aTak aCs
  rw [zfilt (p := aCd a l) (q := fun x => aCd a 99 x && !decide (x = l)) (fun x hx => aCd_split a hx)]
  exact this
theorem aTags_in {k : zK} (h0 : 0 < k.1) {l : Nat} (hl : l < 32) (hu : 0 < aU a l) : aTags k a (l % k.1) 99 = aTags k a (l % k.1) l + 1 := by
  have hp : aCd a 99 l = true := by
    have : ¬ l = 99 := by omega
    unfold aCd; simp [this]; exact hu
  have := zsum_split (p := aCd a 99) (f := fun _ => 1) (zlin_nodup (st := k.1) (m := 32) (l := l % k.1) h0) (zin_set h0 hl) hp
  unfold aTags aCs
  rw [zfilt (p := aCd a l) (q := fun x => aCd a 99 x && !decide (x = l)) (fun x hx => aCd_split a hx), zlen_sum, zlen_sum]
  exact this
theorem aTags_le99 {k : zK} {s l : Nat} : aTags k a s l ≤ aTags k a s 99 := by
  unfold aTags aCs
  rw [zfilt (p := aCd a l) (q := fun x => aCd a 99 x && !decide (x = l)) (fun x hx => aCd_split a hx)]
  rw [show (fun x => aCd a 99 x && !decide (x = l)) = (fun x => (!decide (x = l)) && aCd a 99 x) from funext (fun x => Bool.and_comm _ _), ← List.filter_filter]
  exact List.length_filter_le _ _
theorem aTk_tags {k : zK} {s l : Nat} : aTags k (aTk a l) s l = aTags k a s l := by
  unfold aTags aCs
  rw [zfilt (p := aCd (aTk a l) l) (q := aCd a l) (fun x hx => ?_)]
  unfold aCd
  show (decide (0 < nup (aU a) l (aU a l + 1) x) && _) = _
  unfold nup
  by_cases c : x = l
  · simp [c]
  · rw [if_neg c]
theorem aTk_T {k : zK} (h0 : 0 < k.1) {l : Nat} (hl : l < 32) (hT : zIT k a) (h : aTags k a (l % k.1) l < k.2.1) : zIT k (aTk a l) := by
  intro s hs
  have h1 := aTags_split (a := aTk a l) (s := s) (l := l) h0
  rw [aTk_tags] at h1
  by_cases c : l ∈ zlin k.1 32 s
  · rw [if_pos c] at h1
    rw [zset_in hs c] at h
    omega
  · rw [if_neg c] at h1
    have := aTags_le99 (k := k) (a := a) (s := s) (l := l)
    have := hT s hs
    omega
theorem zRX_Ck (hX : zRX a x) : zRX (aCk a) (upd x 608 (nI (aC a + 1))) := by
  refine ⟨fun y hy => ?_, fun j hj => ?_, ?_⟩
  · obtain ⟨f1, f2, f3⟩ := hX.1 y hy
    refine ⟨by rw [pk_un (by omega)]; exact f1, by rw [pk_un (by omega)]; exact f2, fun hu => ⟨by rw [pk_un (by omega)]; exact (f3 hu).1, fun i hi => by rw [pk_un (by omega)]; exact (f3 hu).2 i hi⟩⟩
  · rw [pk_un (by omega)]; exact hX.2.1 j hj
  · rw [pk_us]; rfl
end PUTS
