/-! ===== what is asked of the fits, the class's loops; asks ===== -/
theorem zb1 {n i : Nat} (hn : n < 65536) (hi : i < 32) : (nI n >>> (nI i &&& 31)) &&& 1 = 1 ↔ n.testBit i = true := by
  rw [← zbt_n (by omega) hi]
  unfold zbt
  exact decide_eq_true_iff.symm
theorem n16 {l : Nat} (h : 16 ≤ l) (hl : l ≤ 1000) : (16 : Int32) ≤ nI l := nI_le (a := 16) (b := l) h (by omega)
theorem n16' {l : Nat} (h : l < 16) : ¬ (16 : Int32) ≤ nI l := nI_ge (a := l) (b := 16) h (by omega)
section ASKX
variable {hc sets ways weighed steps unsure seen : Int32} {memory seenHit seenStep stepSpot stepWord unsureSpot unsureWord : Nat → Int32} {rf kn bi s1 s2 s3 s4 s5 s6 s7 s8 : Int32} {t1 t2 t3 t4 t5 t6 : Nat → Int32} {n : Nat}
theorem pX5_fitAt_loop (hn : n < 65536) {b1 : Int32} : ∀ (m N i c : Nat), i + m = 16 → m < N →
    fX5_fitAt_27 hc sets ways weighed steps unsure seen memory seenHit seenStep stepSpot stepWord unsureSpot unsureWord N b1 (nI n) (nI c) (nI i) rf kn bi s1 s2 s3 s4 s5 s6 s7 s8 t1 t2 t3 t4 t5 t6 = (match zfa b1 c (zrun (fun j => n.testBit j) i m) with | none => some (-1, 1, kn, bi, s1, s2, s3, s4, s5, s6, s7, s8, t1, t2, t3, t4, t5, t6) | some o => some (nI o, 0, kn, bi, s1, s2, s3, s4, s5, s6, s7, s8, t1, t2, t3, t4, t5, t6)) := by
  intro m
  induction m with
  | zero =>
    intro N i c h hN
    obtain ⟨N, rfl⟩ : ∃ k, N = k + 1 := ⟨N - 1, by omega⟩
    rw [fX5_fitAt_27, if_pos (n16 (by omega) (by omega))]
    rfl
  | succ m ih =>
    intro N i c h hN
    obtain ⟨N, rfl⟩ : ∃ k, N = k + 1 := ⟨N - 1, by omega⟩
    rw [fX5_fitAt_27, if_neg (n16' (by omega))]
    simp only [zlet_e]
    rw [show nI i + 1 = nI (i + 1) from nI_1 _, show nI c + 1 = nI (c + 1) from nI_1 _]
    cases hb : n.testBit i with
    | true =>
      rw [if_pos ((zb1 hn (by omega)).mpr hb), zrun_t (f := fun j => n.testBit j) hb]
      unfold zfa
      by_cases q : nI c = b1
      · rw [if_pos q, if_pos q]
        rfl
      · rw [if_neg q, if_neg q]
        exact ih N (i + 1) (c + 1) (by omega) (by omega)
    | false =>
      rw [if_neg (fun z => by rw [(zb1 hn (by omega)).mp z] at hb; cases hb), zrun_f (f := fun j => n.testBit j) hb]
      exact ih N (i + 1) c (by omega) (by omega)
theorem pX5_could_loop (hn : n < 65536) : ∀ (m N i : Nat) (a : Int32), i + m = 16 → m < N →
    fX5_could_22 hc sets ways weighed steps unsure seen memory seenHit seenStep stepSpot stepWord unsureSpot unsureWord N (nI n) a (nI i) rf kn bi s1 s2 s3 s4 s5 s6 s7 s8 t1 t2 t3 t4 t5 t6 = some ((zrun (fun j => n.testBit j) i m).foldl (fun a o => a ||| nI o) a, 0, kn, bi, s1, s2, s3, s4, s5, s6, s7, s8, t1, t2, t3, t4, t5, t6) := by
  intro m
  induction m with
  | zero =>
    intro N i a h hN
    obtain ⟨N, rfl⟩ : ∃ k, N = k + 1 := ⟨N - 1, by omega⟩
    rw [fX5_could_22, if_pos (n16 (by omega) (by omega))]
    rfl
  | succ m ih =>
    intro N i a h hN
    obtain ⟨N, rfl⟩ : ∃ k, N = k + 1 := ⟨N - 1, by omega⟩
    rw [fX5_could_22, if_neg (n16' (by omega))]
    simp only [zlet_e]
    rw [show nI i + 1 = nI (i + 1) from nI_1 _]
    cases hb : n.testBit i with
    | true =>
      rw [if_pos ((zb1 hn (by omega)).mpr hb), zrun_t (f := fun j => n.testBit j) hb]
      exact ih N (i + 1) (a ||| nI i) (by omega) (by omega)
    | false =>
      rw [if_neg (fun z => by rw [(zb1 hn (by omega)).mp z] at hb; cases hb), zrun_f (f := fun j => n.testBit j) hb]
      exact ih N (i + 1) a (by omega) (by omega)
theorem pX5_surely_loop (hn : n < 65536) : ∀ (m N i : Nat) (a : Int32), i + m = 16 → m < N →
    fX5_surely_31 hc sets ways weighed steps unsure seen memory seenHit seenStep stepSpot stepWord unsureSpot unsureWord N (nI n) a (nI i) rf kn bi s1 s2 s3 s4 s5 s6 s7 s8 t1 t2 t3 t4 t5 t6 = some ((zrun (fun j => n.testBit j) i m).foldl (fun a o => a &&& nI o) a, 0, kn, bi, s1, s2, s3, s4, s5, s6, s7, s8, t1, t2, t3, t4, t5, t6) := by
  intro m
  induction m with
  | zero =>
    intro N i a h hN
    obtain ⟨N, rfl⟩ : ∃ k, N = k + 1 := ⟨N - 1, by omega⟩
    rw [fX5_surely_31, if_pos (n16 (by omega) (by omega))]
    rfl
  | succ m ih =>
    intro N i a h hN
    obtain ⟨N, rfl⟩ : ∃ k, N = k + 1 := ⟨N - 1, by omega⟩
    rw [fX5_surely_31, if_neg (n16' (by omega))]
    simp only [zlet_e]
    rw [show nI i + 1 = nI (i + 1) from nI_1 _]
    cases hb : n.testBit i with
    | true =>
      rw [if_pos ((zb1 hn (by omega)).mpr hb), zrun_t (f := fun j => n.testBit j) hb]
      exact ih N (i + 1) (a &&& nI i) (by omega) (by omega)
    | false =>
      rw [if_neg (fun z => by rw [(zb1 hn (by omega)).mp z] at hb; cases hb), zrun_f (f := fun j => n.testBit j) hb]
      exact ih N (i + 1) a (by omega) (by omega)
theorem pX5_left_loop (hn : n < 65536) {u : Nat} (hu : u < 32) : ∀ (m N i c : Nat), i + m = 16 → m < N →
    fX5_leftAtMost_4 N (nI n) (nI u) (nI c) (nI i) = (fJ6_bitCount_0f7a4 (nI n)).bind fun x1 => some (if nI (c + zcn (zrun (fun j => n.testBit j) i m) u) < x1 - nI (c + zcn (zrun (fun j => n.testBit j) i m) u) then x1 - nI (c + zcn (zrun (fun j => n.testBit j) i m) u) else nI (c + zcn (zrun (fun j => n.testBit j) i m) u)) := by
  intro m
  induction m with
  | zero =>
    intro N i c h hN
    obtain ⟨N, rfl⟩ : ∃ k, N = k + 1 := ⟨N - 1, by omega⟩
    rw [fX5_leftAtMost_4, if_pos (n16 (by omega) (by omega))]
    rfl
  | succ m ih =>
    intro N i c h hN
    obtain ⟨N, rfl⟩ : ∃ k, N = k + 1 := ⟨N - 1, by omega⟩
    rw [fX5_leftAtMost_4, if_neg (n16' (by omega))]
    simp only [zlet_e]
    rw [show nI i + 1 = nI (i + 1) from nI_1 _, zbt_v, zbt_v, zbt_n (by omega) (by omega), zbt_n (by omega) hu]
    cases hb : n.testBit i with
    | true =>
      rw [zrun_t (f := fun j => n.testBit j) hb, zcn_cons]
      have e : nI c + (nI (zbn true) &&& nI (zbn (i.testBit u))) = nI (c + (if i.testBit u then 1 else 0)) := by
        cases i.testBit u
        · exact nI_add c 0
        · exact nI_add c 1
      rw [e, ih N (i + 1) _ (by omega) (by omega), Nat.add_assoc]
    | false =>
      rw [zrun_f (f := fun j => n.testBit j) hb]
      have e : nI c + (nI (zbn false) &&& nI (zbn (i.testBit u))) = nI c := by
        cases i.testBit u
        · exact nI_add c 0
        · exact nI_add c 0
      rw [e, ih N (i + 1) _ (by omega) (by omega)]
end ASKX
/-- how many are left at most -/
def zlf (F : List Nat) (u : Nat) : Nat := if zcn F u < F.length - zcn F u then F.length - zcn F u else zcn F u
theorem zcn_le (F : List Nat) (u : Nat) : zcn F u ≤ F.length := List.length_filter_le _ _
theorem pX5_leftAtMost {p : zP} (hp : zPok p) {u : Nat} (hu : u < 32) : fX5_leftAtMost (nI (pB p)) (nI u) = some (nI (zlf (pF p) u)) := by
  have h1 := pF_len hp
  have h2 := zcn_le (pF p) u
  unfold fX5_leftAtMost
  have := pX5_left_loop (n := pB p) (pB_lt hp) hu 16 zF 0 0 (by omega) (zF_gt (by omega))
  rw [pB_run hp, Nat.zero_add] at this
  refine this.trans ?_
  rw [pJ6_bitCount (pB_lt hp), Option.bind_some]
  unfold zpc
  rw [pB_run hp, pk_sub h2]
  unfold zlf
  by_cases c : zcn (pF p) u < (pF p).length - zcn (pF p) u
  · rw [if_pos c, if_pos (nI_lt c (by omega))]
  · rw [if_neg c, if_neg (nI_nlt (by omega) (by omega))]
/-- who is asked, what is left -/
def zbs (F : List Nat) : Nat → Nat → Option (Nat × Nat) → Option (Nat × Nat)
  | 0, _, b => b
  | n + 1, u, none => zbs F n (u + 1) (some (u, zlf F u))
  | n + 1, u, some (bu, fw) => zbs F n (u + 1) (if zlf F u < fw then some (u, zlf F u) else some (bu, fw))
def zb1o (b : Option (Nat × Nat)) : Int32 := match b with | none => -2 | some (u, _) => nI u
def zb2o (d : Int32) (b : Option (Nat × Nat)) : Int32 := match b with | none => d | some (_, w) => nI w
def zbsok (F : List Nat) (b : Option (Nat × Nat)) : Prop := ∀ u w, b = some (u, w) → u < 4 ∧ w = zlf F u
theorem zlf_le (F : List Nat) (u : Nat) : zlf F u ≤ F.length := by
  have := zcn_le F u
  unfold zlf
  split <;> omega
theorem zbs_ok {F : List Nat} : ∀ {n u : Nat} {b : Option (Nat × Nat)}, u + n ≤ 4 → zbsok F b → zbsok F (zbs F n u b)
  | 0, u, b, _, h => h
  | n + 1, u, none, hu, h => by
    unfold zbs
    exact zbs_ok (by omega) (fun u' w e => by cases e; exact ⟨by omega, rfl⟩)
  | n + 1, u, some (bu, fw), hu, h => by
    unfold zbs
    refine zbs_ok (by omega) ?_
    split
    · exact fun u' w e => by cases e; exact ⟨by omega, rfl⟩
    · exact h
theorem pX5_best_loop {p : zP} (hp : zPok p) : ∀ (n N u : Nat) (b : Option (Nat × Nat)), u + n = (pU p).length → n < N → zbsok (pF p) b →
    fX5_bestAsked_15 (nI (pU p).length) N (nI (pB p)) (zb1o b) (zb2o 0 b) (nI u) = some (zb1o (zbs (pF p) n u b)) := by
  have h4 : (pU p).length ≤ 4 := hp.2.2.2.2.2.1
  have h16 := pF_len hp
  intro n
  induction n with
  | zero =>
    intro N u b h hN hb
    obtain ⟨N, rfl⟩ : ∃ k, N = k + 1 := ⟨N - 1, by omega⟩
    rw [fX5_bestAsked_15, if_pos (nI_le (by omega) (by omega))]
    cases b <;> rfl
  | succ n ih =>
    intro N u b h hN hb
    obtain ⟨N, rfl⟩ : ∃ k, N = k + 1 := ⟨N - 1, by omega⟩
    rw [fX5_bestAsked_15, if_neg (nI_ge (by omega) (by omega)), pX5_leftAtMost hp (by omega), Option.bind_some]
    simp only [zlet_e]
    rw [show nI u + 1 = nI (u + 1) from nI_1 _]
    cases b with
    | none =>
      rw [if_pos (show zb1o none < 0 by decide)]
      unfold zbs
      exact ih N (u + 1) (some (u, zlf (pF p) u)) (by omega) (by omega) (fun u' w e => by cases e; exact ⟨by omega, rfl⟩)
    | some q =>
      obtain ⟨bu, fw⟩ := q
      obtain ⟨g1, g2⟩ := hb bu fw rfl
      have g3 := zlf_le (pF p) bu
      have g4 := zlf_le (pF p) u
      rw [if_neg (show ¬ zb1o (some (bu, fw)) < 0 from nI_pos (by omega))]
      unfold zbs
      by_cases c : zlf (pF p) u < fw
      · rw [if_pos c, if_neg (show ¬ zb2o 0 (some (bu, fw)) ≤ nI (zlf (pF p) u) from nI_ge (by omega) (by omega))]
        exact ih N (u + 1) (some (u, zlf (pF p) u)) (by omega) (by omega) (fun u' w e => by cases e; exact ⟨by omega, rfl⟩)
      · rw [if_neg c, if_pos (show zb2o 0 (some (bu, fw)) ≤ nI (zlf (pF p) u) from nI_le (by omega) (by omega))]
        exact ih N (u + 1) (some (bu, fw)) (by omega) (by omega) hb
/-- ASK -/
def pAsk (p : zP) : Option (Nat × Nat) := if pF p = [] then none else zbs (pF p) (pU p).length 0 none
theorem pAsk_ok {p : zP} (hp : zPok p) : zbsok (pF p) (pAsk p) := by
  have h4 : (pU p).length ≤ 4 := hp.2.2.2.2.2.1
  unfold pAsk
  split
  · exact fun _ _ e => by cases e
  · exact zbs_ok (by omega) (fun _ _ e => by cases e)
theorem pX5_bestAsked {p : zP} (hp : zPok p) : fX5_bestAsked (nI (pU p).length) (nI (pB p)) = some (zb1o (pAsk p)) := by
  have h4 : (pU p).length ≤ 4 := hp.2.2.2.2.2.1
  unfold fX5_bestAsked pAsk
  have hB := pB_lt hp
  by_cases c : pF p = []
  · rw [if_pos c, if_pos (by rw [(pB_0 hp).mpr c]; rfl)]
    rfl
  · rw [if_neg c, if_neg (show ¬ nI (pB p) = 0 from fun z => c ((pB_0 hp).mp ((nI_eq (a := pB p) (b := 0) (by omega) (by omega)).mp z)))]
    exact pX5_best_loop hp (pU p).length zF 0 none (by omega) (zF_gt (by omega)) (fun _ _ e => by cases e)
section ASKM
variable {p : zP} {sets ways steps unsures saws hit weighed : Int32} {at' line may memory put saw unsure : Nat → Int32}
theorem pX7_asks_loop (hp : zPok p) (hm : zPM p sets ways steps unsures saws hit weighed at' line may memory put saw unsure) {w v b od hn hs sn en : Int32} {ord oi x : Nat → Int32} (hoi : ∀ j, j < (pU p).length → oi j = nI (zcn (pF p) j)) (hF : ¬ pF p = []) : ∀ (n N u : Nat) (q : Option (Nat × Nat)), u + n = (pU p).length → n < N → zbsok (pF p) q →
    fX7_asks_17 sets ways steps unsures saws hit weighed at' line may memory put saw unsure N (zb1o q) (nI u) w v b od hn hs (nI (pF p).length) sn en (zb2o (-2) q) ord oi x = some (zb1o (zbs (pF p) n u q), w, v, b, od, hn, hs, nI (pF p).length, sn, en, zb2o (-2) (zbs (pF p) n u q), ord, oi, x) := by
  have h4 : (pU p).length ≤ 4 := hp.2.2.2.2.2.1
  have h16 := pF_len hp
  have e5 := hm.2.2.2.2.1
  have hpos : 0 < (pF p).length := List.length_pos_iff.mpr hF
  intro n
  induction n with
  | zero =>
    intro N u q h hN hq
    obtain ⟨N, rfl⟩ : ∃ k, N = k + 1 := ⟨N - 1, by omega⟩
    rw [fX7_asks_17, if_pos (by rw [e5]; exact nI_le (by omega) (by omega))]
    cases q <;> rfl
  | succ n ih =>
    intro N u q h hN hq
    obtain ⟨N, rfl⟩ : ∃ k, N = k + 1 := ⟨N - 1, by omega⟩
    have hc := zcn_le (pF p) u
    rw [fX7_asks_17, if_neg (by rw [e5]; exact nI_ge (by omega) (by omega)), if_neg (nI_nle hpos (by omega)), zald_n (by omega) (by omega), zald_n (by omega) (by omega), zlet_e, hoi u (by omega), pk_sub hc]
    have key : fX7_asks_75 sets ways steps unsures saws hit weighed at' line may memory put saw unsure (fX7_asks_17 sets ways steps unsures saws hit weighed at' line may memory put saw unsure N) (zb1o q) (nI u) (nI (zlf (pF p) u)) w v b od hn hs (nI (pF p).length) sn en (zb2o (-2) q) ord oi x = some (zb1o (zbs (pF p) (n + 1) u q), w, v, b, od, hn, hs, nI (pF p).length, sn, en, zb2o (-2) (zbs (pF p) (n + 1) u q), ord, oi, x) := by
      unfold fX7_asks_75
      simp only [zlet_e]
      rw [show nI u + 1 = nI (u + 1) from nI_1 _]
      cases q with
      | none =>
        rw [if_pos (show zb1o none = -2 from rfl)]
        unfold zbs
        exact ih N (u + 1) (some (u, zlf (pF p) u)) (by omega) (by omega) (fun u' w e => by cases e; exact ⟨by omega, rfl⟩)
      | some z =>
        obtain ⟨bu, fw⟩ := z
        obtain ⟨g1, g2⟩ := hq bu fw rfl
        have g3 := zlf_le (pF p) bu
        have g4 := zlf_le (pF p) u
        rw [if_neg (show ¬ zb1o (some (bu, fw)) = -2 from fun z => nI_pos (n := bu) (by omega) (by rw [show nI bu = zb1o (some (bu, fw)) from rfl, z]; decide))]
        unfold zbs
        by_cases c : zlf (pF p) u < fw
        · rw [if_pos c, if_pos (show nI (zlf (pF p) u) < zb2o (-2) (some (bu, fw)) from nI_lt (by omega) (by omega))]
          exact ih N (u + 1) (some (u, zlf (pF p) u)) (by omega) (by omega) (fun u' w e => by cases e; exact ⟨by omega, rfl⟩)
        · rw [if_neg c, if_neg (show ¬ nI (zlf (pF p) u) < zb2o (-2) (some (bu, fw)) from nI_nlt (by omega) (by omega))]
          exact ih N (u + 1) (some (bu, fw)) (by omega) (by omega) hq
    unfold zlf at key
    by_cases c : zcn (pF p) u ≤ (pF p).length - zcn (pF p) u
    · rw [if_pos (nI_le c (by omega)), zald_n (by omega) (by omega), zlet_e, hoi u (by omega), pk_sub hc]
      by_cases c2 : zcn (pF p) u < (pF p).length - zcn (pF p) u
      · rw [if_pos c2] at key
        exact key
      · rw [if_neg c2, show zcn (pF p) u = (pF p).length - zcn (pF p) u by omega] at key
        exact key
    · rw [if_neg (nI_ge (by omega) (by omega)), zald_n (by omega) (by omega), hoi u (by omega)]
      rw [if_neg (show ¬ zcn (pF p) u < (pF p).length - zcn (pF p) u by omega)] at key
      exact key
theorem pX7_asks (hp : zPok p) (hm : zPM p sets ways steps unsures saws hit weighed at' line may memory put saw unsure) {w v b od hn hs fn sn en al : Int32} {ord oi x : Nat → Int32} :
    ∃ w' v' b' od' hn' hs' fn' sn' en' r, fX7_asks w v b od hn hs fn sn en al sets ways steps unsures saws hit weighed ord oi x at' line may memory put saw unsure = some (zb1o (pAsk p), w', v', b', od', hn', hs', fn', sn', en', zb2o (-2) (pAsk p), r) := by
  have h4 : (pU p).length ≤ 4 := hp.2.2.2.2.2.1
  obtain ⟨w', v', b', od', hn', hs', ord', oi', x', f1, f2⟩ := pX7_fitting (a1 := -1) (w := w) (v := v) (b := b) (od := od) (hn := hn) (hs := hs) (fn := fn) (sn := sn) (en := en) (ord := ord) (oi := oi) (x := x) hp hm
  unfold fX7_asks pAsk
  rw [f1, Option.bind_some]
  by_cases c : pF p = []
  · rw [if_pos c]
    obtain ⟨N, hz, hN⟩ := zF_suc
    rw [hz, fX7_asks_17]
    have e0 : nI (pF p).length ≤ 0 := by rw [c]; decide
    by_cases c2 : unsures ≤ 0
    · rw [if_pos c2]
      exact ⟨_, _, _, _, _, _, _, _, _, _, rfl⟩
    · rw [if_neg c2, if_pos e0]
      exact ⟨_, _, _, _, _, _, _, _, _, _, rfl⟩
  · rw [if_neg c]
    have := pX7_asks_loop (w := w') (v := v') (b := b') (od := od') (hn := hn') (hs := hs') (sn := (pF p).foldl (fun a o => a ||| nI o) 0) (en := if nI (pF p).length = 0 then 0 else (pF p).foldl (fun a o => a &&& nI o) (nI (pN p) - 1)) (ord := ord') (x := x') hp hm f2 c (pU p).length zF 0 none (by omega) (zF_gt (by omega)) (fun _ _ e => by cases e)
    exact ⟨_, _, _, _, _, _, _, _, _, _, this⟩
end ASKM
