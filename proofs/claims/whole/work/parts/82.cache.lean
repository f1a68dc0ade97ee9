/-! ===== the tape; cache, both sides ===== -/
def zTape (t : Nat) (tp tq : Nat → Int32) : Prop := t ≤ 1200 ∧ t % 20 = 0 ∧ ∀ j, j < t → (∃ z : Int32, tp j = z.toInt8.toInt32) ∧ tq j = tp j
theorem byte_c (z : Int32) : (∃ c, c < 128 ∧ z.toInt8.toInt32 = nI c ∧ z.toInt8.toInt32 &&& 255 = nI c) ∨ (z.toInt8.toInt32 < 0 ∧ ∃ m, 128 ≤ m ∧ m < 256 ∧ z.toInt8.toInt32 &&& 255 = nI m) := by
  have h1 : (z.toInt8.toInt32).toInt = z.toInt8.toInt := Int8.toInt_toInt32 _
  have h2 := Int8.toInt_lt z.toInt8
  have h3 := Int8.le_toInt z.toInt8
  generalize z.toInt8.toInt32 = b at *
  by_cases c : b < 0
  · refine Or.inr ⟨c, ?_⟩
    rw [i_lt] at c
    have c0 : (0 : Int32).toInt = 0 := rfl
    have e : b.toBitVec.toNat = (2 ^ 32 + b.toInt).toNat := by
      have := BitVec.toInt_eq_toNat_cond b.toBitVec
      have hb : b.toInt = b.toBitVec.toInt := rfl
      have hlt := b.toBitVec.isLt
      split at this <;> omega
    refine ⟨b.toBitVec.toNat % 2 ^ 8, ?_, ?_, pk_and b 8 rfl⟩
    · omega
    · omega
  · obtain ⟨j, hj, e⟩ := nI_of c
    rw [e, nI_toInt hj] at h1
    refine Or.inl ⟨j, by omega, e, ?_⟩
    rw [e, pk_andN (by omega) 8 rfl, Nat.mod_eq_of_lt (by omega)]
theorem zTape_tx {t n : Nat} {tp tq : Nat → Int32} (h : zTape t tp tq) (hn : n ≤ t) : ∃ C, zTx tp tq n C := by
  refine ⟨fun j => if tp j < 0 then 200 else (tp j).toNatClampNeg, by have := h.1; omega, fun j hj => ?_⟩
  obtain ⟨⟨z, hz⟩, hq⟩ := h.2.2 j (by omega)
  rw [hq, hz]
  rcases byte_c z with ⟨c, h1, h2, h3⟩ | ⟨h1, m, h2, h3, h4⟩
  · left
    dsimp only
    rw [hz, h2, if_neg (nI_pos (by omega)), nI_clamp (by omega)]
    rw [h2] at h3
    exact ⟨h1, rfl, h3⟩
  · right
    dsimp only
    rw [hz, if_pos h1]
    exact ⟨rfl, h1, m, h2, h3, h4⟩
theorem m_cacheR {t : Nat} (ht : t ≤ 1200) {a1 rf th tr wh : Int32} (ha : ¬ ∃ n, n ≤ t ∧ a1 = nI n) : fX5_cacheR (nI t) rf a1 = some (-1, 2) ∧ fX7_cacheR th tr wh (nI t) a1 = some (-1, 0, 2, -1) := by
  unfold fX5_cacheR fX7_cacheR
  rcases pk_ix a1 (n := t + 1) (by omega) with q | q | ⟨k, hk, e⟩
  · rw [if_pos q, if_pos q]; exact ⟨rfl, rfl⟩
  · by_cases c : a1 < 0
    · rw [if_pos c, if_pos c]; exact ⟨rfl, rfl⟩
    · have q2 : ¬ a1 ≤ nI t := fun z => by
        rw [i_le] at z q
        rw [nI_toInt (by omega)] at z q
        omega
      rw [if_neg c, if_neg c, if_neg q2, if_neg q2]; exact ⟨rfl, rfl⟩
  · exact absurd ⟨k, by omega, e⟩ ha
theorem no_at {α : Type} {i : Nat} {s : α} : ¬ ([] : List α)[i]? = some s := by simp
/-- nothing told -/
def zQ0 : zQt := ((0, 0, false, [], fun _ => 0, [], []), fun _ => false, 0)
theorem zQ0_ok : zQok zQ0 := ⟨Nat.zero_le _, fun h => absurd h (Nat.lt_irrefl 0), (fun _ h => nomatch h), Nat.zero_le _, fun j _ => ⟨0, by decide, rfl⟩, (fun _ h => nomatch h), Nat.zero_le _, Nat.zero_le _, (fun _ h => nomatch h), Nat.zero_le _⟩
theorem zbt_0 (i : Nat) : zbt 0 i = false := by
  unfold zbt
  refine decide_eq_false (fun z => ?_)
  have : (0 : Int32) >>> (nI i &&& 31) = 0 := by
    apply Int32.toBitVec_inj.1
    rw [Int32.toBitVec_shiftRight]
    simp
  rw [this] at z
  exact absurd z (by decide)
theorem zQ0_M : zQM zQ0 0 0 0 0 0 0 0 0 0 (fun _ => 0) (fun _ => 0) (fun _ => 0) (fun _ => 0) (fun _ => 0) (fun _ => 0) (fun _ => 0) :=
  ⟨⟨rfl, rfl, rfl, rfl, rfl, rfl, fun _ _ => rfl, fun i s h => absurd (show ([] : List (Nat × Bool))[i]? = some s from h) no_at, fun i s h => absurd (show ([] : zL)[i]? = some s from h) no_at, fun i s h => absurd (show ([] : List (Nat × Nat))[i]? = some s from h) no_at⟩, rfl, fun l _ => zbt_0 l, fun i _ _ => zbt_0 i⟩
theorem zQok_P {q : zQt} (h : zQok q) (h0 : 0 < pSt q.1) : zPok q.1 := by
  obtain ⟨o1, o2, o3, o4, o5, o6, o7, o8, o9, o10⟩ := h
  exact ⟨o2 h0, o3, o4, o5, o6, o7, o8, o9⟩
section CACHE
variable {t n : Nat} {tp tq : Nat → Int32}
/-- both parse the text alike -/
theorem parse_both (ht : zTape t tp tq) (hn : n ≤ t) {te ta tk ts tv tf tpl cs cw cg cl cst cu cse kn pl nu wr : Int32} {le : Int64} {cm csh css csp csw cta cus cuw : Nat → Int32} :
    ∃ sp1 so1 pl1 nu1 le1, fX7_goesOn (nI n) 0 0 pl nu le tq = some (sp1, so1, pl1, nu1, le1) ∧
    ((∃ (q' : zQt) (te' at' kd' sr' va' fp' cs' cw' cg' cl' cst' cu' cse' : Int32) (cm' csh' css' csp' csw' cta' cus' cuw' : Nat → Int32), fX4_tellAll te ta tk ts tv tf tpl tp cs cw cg cl cst cu cse kn cm csh css csp csw cta cus cuw (nI n) = some (1, te', at', kd', sr', va', 0, fp', cs', cw', cg', cl', cst', cu', cse', 0, cm', csh', css', csp', csw', cta', cus', cuw') ∧ zQok q' ∧ 0 < pSt q'.1 ∧ zQC q' cs' cw' cg' cl' cst' cu' cse' cm' csh' css' csp' csw' cta' cus' cuw' ∧
      ∃ (b1 b2 b3 b4 wr' : Int32) (b5 : Int64) (ms' mw' ml' mt' mst' mu' msw' mh' mg' : Int32) (mat' mli' mma' mme' mpu' msa' mun' : Nat → Int32), fX7_readAll (nI n) sp1 so1 pl1 nu1 0 wr le1 0 0 0 0 0 0 0 0 0 tq (fun _ => 0) (fun _ => 0) (fun _ => 0) (fun _ => 0) (fun _ => 0) (fun _ => 0) (fun _ => 0) = some (b1, b2, b3, b4, 0, wr', b5, ms', mw', ml', mt', mst', mu', msw', mh', mg', mat', mli', mma', mme', mpu', msa', mun') ∧ zQM q' ms' mw' ml' mt' mst' mu' msw' mh' mg' mat' mli' mma' mme' mpu' msa' mun') ∨
     (∃ fl pos : Int32, 0 < fl ∧ (∃ te' a1 a2 a3 a4 r, fX4_tellAll te ta tk ts tv tf tpl tp cs cw cg cl cst cu cse kn cm csh css csp csw cta cus cuw (nI n) = some (0, te', a1, a2, a3, a4, fl, pos, r)) ∧ ∃ b1 b2 b3 b4 b5 r, fX7_readAll (nI n) sp1 so1 pl1 nu1 0 wr le1 0 0 0 0 0 0 0 0 0 tq (fun _ => 0) (fun _ => 0) (fun _ => 0) (fun _ => 0) (fun _ => 0) (fun _ => 0) (fun _ => 0) = some (b1, b2, b3, b4, fl, pos, b5, r))) := by
  obtain ⟨C, hT⟩ := zTape_tx ht hn
  have hn12 := ht.1
  obtain ⟨s, e, k, v, T⟩ := tok hT (p := 0) (Nat.zero_le _)
  obtain ⟨nu1, le1, g1, g2, g3⟩ := T.2.1 0 pl nu le (by decide)
  refine ⟨_, _, _, _, _, g1, ?_⟩
  obtain ⟨ta', f1, f2⟩ := pJ7_fill (n := 32) (by omega) (v := 0) cta
  obtain ⟨cm', f3, f4⟩ := pJ7_fill (n := 256) (by omega) (v := 0) cm
  unfold fX4_tellAll fX1_clearAll fX7_readAll
  rw [zlet_e, if_neg (show ¬ (1200 : Int32) < nI n from nI_nlt (a := 1200) (b := n) (by omega) (by omega)), f1, Option.bind_some, f3, Option.bind_some, Option.bind_some]
  have hQC : zQC zQ0 0 0 0 0 0 0 0 cm' csh css csp csw ta' cus cuw := ⟨⟨rfl, rfl, rfl, rfl, rfl, rfl, fun j hj => f4 j hj, fun i s h => absurd (show ([] : List (Nat × Bool))[i]? = some s from h) no_at, fun i s h => absurd (show ([] : zL)[i]? = some s from h) no_at, fun i s h => absurd (show ([] : List (Nat × Nat))[i]? = some s from h) no_at⟩, rfl, fun l hl => f2 l hl⟩
  rcases all_loop hT n zF zF 0 0 s e k v zQ0 tk ts tv 0 tpl 0 nu1 0 wr 0 0 0 0 0 0 0 0 0 0 0 0 0 0 0 0 le1 cm' csh css csp csw ta' cus cuw (fun _ => 0) (fun _ => 0) (fun _ => 0) (fun _ => 0) (fun _ => 0) (fun _ => 0) (fun _ => 0) (by omega) (zF_gt (by omega)) (zF_gt (by omega)) (Nat.zero_le _) (Nat.le_refl _) T zQ0_ok hQC zQ0_M ⟨g2, g3⟩ with ⟨q', at2, kd', sr', va', cs', cw', cg', cl', cst', cu', cse', cm2, csh', css', csp', csw', cta', cus', cuw', y1, y2, y3, y4, b1, b2, b3, b4, b5, ms', mw', ml', mt', mst', mu', msw', mh', mg', mat', mli', mma', mme', mpu', msa', mun', y5, y6⟩ | ⟨fl, pos, f0, ⟨a1, a2, a3, a4, r, y1⟩, b1, b2, b3, b4, b5, r', y2⟩
  · exact Or.inl ⟨q', _, _, _, _, _, _, _, _, _, _, _, _, _, _, _, _, _, _, _, _, _, y1, y2, y3, y4, b1, b2, b3, b4, _, b5, _, _, _, _, _, _, _, _, _, _, _, _, _, _, _, _, y5, y6⟩
  · exact Or.inr ⟨fl, pos, f0, ⟨_, a1, a2, a3, a4, r, y1⟩, b1, b2, b3, b4, b5, r', y2⟩
end CACHE
