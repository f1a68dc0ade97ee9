/-! ===== the parse: saw, line ===== -/
/-- what was seen, class and model -/
def zSX (S : List (Nat × Bool)) (step hit : Nat → Int32) : Prop := ∀ i z, S[i]? = some z → step i = nI z.1 ∧ hit i = nI (zbn z.2)
def zSM (S : List (Nat × Bool)) (saw : Nat → Int32) (hit : Int32) : Prop := (∀ i z, S[i]? = some z → saw i = nI z.1 ∧ zbt hit i = z.2) ∧ ∀ i, S.length ≤ i → i < 6 → zbt hit i = false
theorem zSX_snoc {S : List (Nat × Bool)} {step hit : Nat → Int32} {c : Nat} {b : Bool} (h : zSX S step hit) : zSX (S ++ [(c, b)]) (upd step S.length (nI c)) (upd hit S.length (nI (zbn b))) := by
  intro i z hz
  by_cases q : i < S.length
  · rw [List.getElem?_append_left q] at hz
    rw [pk_un (by omega), pk_un (by omega)]
    exact h i z hz
  · rw [List.getElem?_append_right (by omega)] at hz
    have : i - S.length = 0 := by
      have := (List.getElem?_eq_some_iff.mp hz).1
      simp at this; omega
    rw [this] at hz
    cases hz
    rw [show i = S.length by omega, pk_us, pk_us]
    exact ⟨rfl, rfl⟩
/-- one bit more -/
theorem zbt_or {o : Int32} {i j : Nat} (hi : i < 32) (hj : j < 32) : zbt (o ||| ((1 : Int32) <<< (nI i &&& 31))) j = (zbt o j || decide (i = j)) := by
  obtain ⟨m, rfl⟩ := nI_any o
  have hm : ∃ m' < 2 ^ 32, nI m = nI m' := ⟨m % 2 ^ 32, Nat.mod_lt _ (by decide), by
    apply Int32.toBitVec_inj.1
    show BitVec.ofNat 32 m = BitVec.ofNat 32 (m % 2 ^ 32)
    apply BitVec.eq_of_toNat_eq
    simp⟩
  have e1 : ∀ (x : Int32) (j : Nat), j < 32 → zbt x j = x.toBitVec.getLsbD j := by
    intro x j hj
    unfold zbt
    have hs : (x >>> (nI j &&& 31)) &&& 1 = nI (zbn (x.toBitVec.getLsbD j)) := by
      apply Int32.toBitVec_inj.1
      rw [Int32.toBitVec_and, Int32.toBitVec_shiftRight]
      apply BitVec.eq_of_getLsbD_eq
      intro q hq
      have hsm : ((nI j &&& 31).toBitVec.smod 32).toNat = j := zsh31 ⟨j, by omega⟩
      rw [BitVec.getLsbD_and]
      have h1 : (1 : Int32).toBitVec.getLsbD q = decide (q = 0) := by
        have : ∀ q : Fin 32, (1 : Int32).toBitVec.getLsbD q.val = decide (q.val = 0) := by decide +kernel
        exact this ⟨q, hq⟩
      rw [h1]
      have h2 : ∀ b : Bool, (nI (zbn b)).toBitVec.getLsbD q = (b && decide (q = 0)) := by
        have : ∀ (b : Bool) (q : Fin 32), (nI (zbn b)).toBitVec.getLsbD q.val = (b && decide (q.val = 0)) := by decide +kernel
        exact fun b => this b ⟨q, hq⟩
      rw [h2]
      by_cases c : q = 0
      · subst c
        rw [BitVec.sshiftRight_eq', BitVec.getLsbD_sshiftRight, hsm]
        simp [show 0 + j < 32 by omega, show ¬ 32 ≤ j by omega, show j < 32 by omega]
      · simp [c]
    rw [hs]
    cases x.toBitVec.getLsbD j <;> rfl
  rw [e1 _ _ hj, e1 _ _ hj, Int32.toBitVec_or, BitVec.getLsbD_or]
  congr 1
  have : ∀ (i j : Fin 32), ((1 : Int32) <<< (nI i.val &&& 31)).toBitVec.getLsbD j.val = decide (i.val = j.val) := by decide +kernel
  exact this ⟨i, hi⟩ ⟨j, hj⟩
theorem zSM_snoc {S : List (Nat × Bool)} {saw : Nat → Int32} {hit : Int32} {c : Nat} {b : Bool} (hl : S.length < 6) (h : zSM S saw hit) : zSM (S ++ [(c, b)]) (upd saw S.length (nI c)) (hit ||| (if b then (1 : Int32) <<< (nI S.length &&& 31) else 0)) := by
  have hb : ∀ j, j < 6 → zbt (hit ||| (if b then (1 : Int32) <<< (nI S.length &&& 31) else 0)) j = (zbt hit j || (b && decide (S.length = j))) := by
    intro j hj
    cases b with
    | true => rw [if_pos rfl, zbt_or (by omega) (by omega)]; simp
    | false => rw [if_neg (by decide), Int32.or_zero]; simp
  refine ⟨fun i z hz => ?_, fun i h1 h2 => ?_⟩
  · by_cases q : i < S.length
    · rw [List.getElem?_append_left q] at hz
      rw [pk_un (by omega), hb i (by omega), decide_eq_false (show ¬ S.length = i by omega)]
      have := h.1 i z hz
      exact ⟨this.1, by rw [this.2]; simp⟩
    · rw [List.getElem?_append_right (by omega)] at hz
      have : i - S.length = 0 := by
        have := (List.getElem?_eq_some_iff.mp hz).1
        simp at this; omega
      rw [this] at hz
      cases hz
      have ei : i = S.length := by omega
      rw [ei, pk_us, hb _ hl, h.2 _ (Nat.le_refl _) hl]
      exact ⟨rfl, by simp⟩
  · simp at h1
    rw [hb i h2, h.2 i (by omega) h2, decide_eq_false (show ¬ S.length = i by omega)]
    simp
section PSAW
variable {tp tq : Nat → Int32} {n : Nat} {C : Nat → Nat}
theorem ln_saw (h : zTx tp tq n C) {p s e k v st : Nat} (T : zTk tp tq n p s e k v) (hs : st ≤ 4) {sn : Nat} (hsn : sn ≤ 16) {S : List (Nat × Bool)} (hS : S.length ≤ 6) (hok : ∀ z ∈ S, z.1 < sn) {shit sstep saw : Nat → Int32} {mhit : Int32} (hx : zSX S sstep shit) (hm : zSM S saw mhit) {kd sr va ff fp nu f w : Int32} {le : Int64} :
    (∃ (p' : Nat) (S' : List (Nat × Bool)) (kd' sr' va' : Int32) (shit' sstep' : Nat → Int32), fX4_hasRoom (nI s) ff fp (nI st) (nI S.length) (nI 6) = some (1, ff, fp) ∧ fX4_tellSeen (nI n) (nI e) kd sr va ff fp tp (nI sn) (nI S.length) shit sstep = some (1, nI p', kd', sr', va', ff, fp, nI S'.length, shit', sstep') ∧ 0 < st ∧ (e ≤ p' ∧ p' ≤ n) ∧ S'.length ≤ 6 ∧ (∀ z ∈ S', z.1 < sn) ∧ zSX S' sstep' shit' ∧
      ∃ s' e' k' v', zTk tp tq n p' s' e' k' v' ∧ ∃ nu' le' mhit' saw', fX7_readSaw (nI n) (nI e) (zks k) (nI s) nu f w le (nI st) (nI sn) (nI S.length) mhit tq saw = some (nI e', zks k', nI s', nu', f, w, le', nI S'.length, mhit', saw') ∧ zMs k' v' nu' le' ∧ zSM S' saw' mhit') ∨
    (∃ fl pos : Int32, 0 < fl ∧ ((fX4_hasRoom (nI s) ff fp (nI st) (nI S.length) (nI 6) = some (0, fl, pos)) ∨ (fX4_hasRoom (nI s) ff fp (nI st) (nI S.length) (nI 6) = some (1, ff, fp) ∧ ∃ a1 a2 a3 a4 r, fX4_tellSeen (nI n) (nI e) kd sr va ff fp tp (nI sn) (nI S.length) shit sstep = some (0, a1, a2, a3, a4, fl, pos, r))) ∧
      ∃ b1 b2 b3 b4 r, fX7_readSaw (nI n) (nI e) (zks k) (nI s) nu f w le (nI st) (nI sn) (nI S.length) mhit tq saw = some (b1, 5, b2, b3, fl, pos, b4, r)) := by
  have over80 : ∀ (c1 c2 c3 sp pl nu f w a b : Int32) (le : Int64) (sa : Nat → Int32), ∃ b1 b2 b3 b4 r, fX7_readSaw_80 c1 c2 c3 tq sp 5 pl nu f w le a b sa = some (b1, 5, b2, b3, f, w, b4, r) := fun c1 c2 c3 sp pl nu f w a b le sa => by
    unfold fX7_readSaw_80 fX7_readSaw_114
    rw [g5, Option.bind_some]
    rw [iw5, Option.bind_some, if_pos rfl]
    rw [iw5, Option.bind_some, if_pos rfl]
    rw [fl5, Option.bind_some]
    rw [g5, Option.bind_some, if_pos rfl]
    exact ⟨_, _, _, _, _, rfl⟩
  rcases rom h T hs (show 6 ≤ 16 by omega) hS with ⟨⟨c1, c2⟩, r1, r2⟩ | ⟨fl, f0, r1, r2⟩
  · have r1 := r1 ff fp
    obtain ⟨s1, e1, k1, v1, T1, nu1, le1, g1, m1⟩ := r2 nu le f w
    have hk1 := T1.2.2.2.2.2.2.2.1
    obtain ⟨va1, w1, w2⟩ := cwh T1 (kd := kd) (sr := sr) (va := va) (ff := ff) (fp := fp)
    unfold fX7_readSaw
    rw [show (6 : Int32) = nI 6 from rfl, g1, Option.bind_some]
    unfold fX4_tellSeen
    rw [w2]
    by_cases ck : k1 = 2
    · have hv1 := T1.2.2.1 ck
      rw [if_pos ck, Option.bind_some, if_neg (show ¬ (1 : Int32) = 0 by decide), if_pos ((zks3 hk1).mpr ck), w1 ck, m1.1 ck]
      by_cases cs : v1 < sn
      · rw [if_pos (nI_lt cs (by omega)), if_pos (nI_lt cs (by omega))]
        have hb : ∀ z ∈ S.map Prod.fst, z < 2 ^ 30 := fun z hz => by
          obtain ⟨y, hy, e⟩ := List.mem_map.mp hz
          have := hok y hy
          omega
        have q1 : fX1_isSeen (nI S.length) sstep (nI v1) = some (zbi (decide (v1 ∈ S.map Prod.fst))) := by
          have := iss (X := S.map Prod.fst) (arr := sstep) (c := v1) (map_at (fun i z hz => (hx i z hz).1)) hb (by simpa using hS) (by omega) (S.map Prod.fst) [] zF rfl (zF_gt (by simp; omega))
          rw [List.length_map] at this
          exact this
        have q2 : fX6_stands 6 saw (nI S.length) (nI v1) = some (zbi (decide (v1 ∈ S.map Prod.fst))) := by
          have := stn (X := S.map Prod.fst) (arr := saw) (N0 := 6) (c := v1) (map_at (fun i z hz => (hm.1 i z hz).1)) hb (by simpa using hS) (by omega) (by omega) (S.map Prod.fst) [] zF rfl (zF_gt (by simp; omega))
          rw [List.length_map] at this
          exact this
        rw [q1, Option.bind_some, q2, Option.bind_some]
        by_cases cu : v1 ∈ S.map Prod.fst
        · rw [decide_eq_true cu, if_neg (show ¬ zbi true = 0 by decide), if_neg (show ¬ zbi true = 0 by decide), fln, Option.bind_some]
          unfold fX4_fail
          rw [Option.bind_some, show ∀ {β : Type} (K : Option β), zbl (0, (3 : Int32), (1, nI e1, nI k1, nI s1, nI v1, ff, fp).2.2.2.1).1 K = K from fun K => zbl_n0]
          obtain ⟨b1, b2, b3, b4, r, o1⟩ := over80 (nI n) (nI st) (nI sn) (nI e1) (nI s1) (nI v1) 3 (nI s1) (nI S.length) mhit le1 saw
          exact Or.inr ⟨3, nI s1, by decide, Or.inr ⟨r1, _, _, _, _, _, rfl⟩, b1, b2, b3, b4, r, o1⟩
        · rw [decide_eq_false cu, if_pos (show zbi false = 0 from rfl), if_pos (show zbi false = 0 from rfl)]
          obtain ⟨s2, e2, k2, v2, T2, nu2, le2, g2, m2⟩ := gon h (k := k1) T1.2.2.2.2.2.2.1 (pl := nI s1) (nu := nI v1) (le := le1)
          obtain ⟨va2, y1, y2⟩ := T2.1 (nI k1) (nI s1) (nI v1)
          obtain ⟨n1, n2⟩ := nam T2 (j := 10) (j2 := 23) (by omega) (by omega) (by omega) rfl
          obtain ⟨n3, n4⟩ := nam T2 (j := 11) (j2 := 24) (by omega) (by omega) (by omega) rfl
          unfold fX7_readSaw_80
          rw [y1, Option.bind_some, g2, Option.bind_some]
          rw [n1, Option.bind_some, n2 nu2 le2 m2, Option.bind_some]
          have fin : ∀ (b : Bool), (k2 = 1 ∧ v2 = zpk 10) = (b = true) → (∃ (p' : Nat) (S' : List (Nat × Bool)) (kd' sr' va' : Int32) (shit' sstep' : Nat → Int32), fX4_hasRoom (nI s) ff fp (nI st) (nI S.length) (nI 6) = some (1, ff, fp) ∧ fX4_tellSeen_76 (nI n) tp (nI sn) (nI v1) (nI e2) (nI k2) (nI s2) va2 ff fp (nI S.length) shit sstep = some (1, nI p', kd', sr', va', ff, fp, nI S'.length, shit', sstep') ∧ 0 < st ∧ (e ≤ p' ∧ p' ≤ n) ∧ S'.length ≤ 6 ∧ (∀ z ∈ S', z.1 < sn) ∧ zSX S' sstep' shit' ∧
      ∃ s' e' k' v', zTk tp tq n p' s' e' k' v' ∧ ∃ nu' le' mhit' saw', fX7_readSaw_114 (nI n) (nI st) (nI sn) tq (nI v1) (zbi b) (nI e2) (zks k2) (nI s2) nu2 f w le2 (nI S.length) mhit saw = some (nI e', zks k', nI s', nu', f, w, le', nI S'.length, mhit', saw') ∧ zMs k' v' nu' le' ∧ zSM S' saw' mhit') := by
            intro b hbe
            obtain ⟨s3, e3, k3, v3, T3, nu3, le3, g3, m3⟩ := gon h (k := k2) T2.2.2.2.2.2.2.1 (pl := nI s2) (nu := nu2) (le := le2)
            unfold fX4_tellSeen_76 fX4_tellSeen_120 fX7_readSaw_114 fX7_readSaw_168
            rw [zast_n (f := sstep) c1 (by omega), n1, Option.bind_some, g3, Option.bind_some, if_neg (zks_ne5 k3), zast_n (f := saw) c1 (by omega)]
            have hlen : S.length + 1 = (S ++ [(v1, b)]).length := by simp
            have hok' : ∀ z ∈ S ++ [(v1, b)], z.1 < sn := fun z hz => by
              rcases List.mem_append.mp hz with q | q
              · exact hok z q
              · rw [List.mem_singleton.mp q]; exact cs
            have hsx := zSX_snoc (c := v1) (b := b) hx
            have hsm := zSM_snoc (c := v1) (b := b) c1 hm
            cases b with
            | true =>
              have q : k2 = 1 ∧ v2 = zpk 10 := hbe ▸ rfl
              rw [decide_eq_true q, if_neg (show ¬ zbi true = 0 by decide), if_neg (show ¬ zbi true = 0 by decide), zast_n (f := shit) c1 (by omega)]
              simp only [zlet_e]
              rw [show nI S.length + 1 = nI (S.length + 1) from nI_1 _, hlen]
              exact ⟨e2, S ++ [(v1, true)], _, _, _, _, _, r1, rfl, c2, ⟨by have z1 := T1.2.2.2.2; have z2 := T2.2.2.2.2; omega, T2.2.2.2.2.2.2.1⟩, by simp; omega, hok', hsx, s3, e3, k3, v3, T3, nu3, le3, _, _, rfl, m3, hsm⟩
            | false =>
              have q : ¬ (k2 = 1 ∧ v2 = zpk 10) := fun z => Bool.noConfusion (show false = true from hbe ▸ z)
              rw [decide_eq_false q, if_pos (show zbi false = 0 from rfl), if_pos (show zbi false = 0 from rfl), zast_n (f := shit) c1 (by omega)]
              simp only [zlet_e]
              rw [show nI S.length + 1 = nI (S.length + 1) from nI_1 _, hlen]
              exact ⟨e2, S ++ [(v1, false)], _, _, _, _, _, r1, rfl, c2, ⟨by have z1 := T1.2.2.2.2; have z2 := T2.2.2.2.2; omega, T2.2.2.2.2.2.2.1⟩, by simp; omega, hok', hsx, s3, e3, k3, v3, T3, nu3, le3, _, _, rfl, m3, hsm⟩
          by_cases ch : k2 = 1 ∧ v2 = zpk 10
          · have := fin true (by simp [ch])
            rw [decide_eq_true ch, if_neg (show ¬ zbi true = 0 by decide), if_neg (show ¬ zbi true = 0 by decide)]
            exact Or.inl this
          · have := fin false (by simp [ch])
            rw [decide_eq_false ch, if_pos (show zbi false = 0 from rfl), if_pos (show zbi false = 0 from rfl), n3, Option.bind_some, n4 nu2 le2 m2, Option.bind_some]
            by_cases cm : k2 = 1 ∧ v2 = zpk 11
            · rw [decide_eq_true cm, if_neg (show ¬ zbi true = 0 by decide), if_neg (show ¬ zbi true = 0 by decide)]
              exact Or.inl this
            · rw [decide_eq_false cm, if_pos (show zbi false = 0 from rfl), if_pos (show zbi false = 0 from rfl), fln, Option.bind_some]
              unfold fX4_fail fX7_readSaw_114
              rw [Option.bind_some, show ∀ {β : Type} (K : Option β), zbl (0, (1 : Int32), (nI e2, nI k2, nI s2, va2).2.2.1).1 K = K from fun K => zbl_n0]
              rw [g5, Option.bind_some, if_pos rfl]
              exact Or.inr ⟨1, nI s2, by decide, Or.inr ⟨r1, _, _, _, _, _, rfl⟩, _, _, _, _, _, rfl⟩
      · rw [if_neg (nI_nlt (by omega) (by omega)), if_neg (nI_nlt (by omega) (by omega)), fln, Option.bind_some]
        unfold fX4_fail
        rw [Option.bind_some, show ∀ {β : Type} (K : Option β), zbl (0, (2 : Int32), (1, nI e1, nI k1, nI s1, nI v1, ff, fp).2.2.2.1).1 K = K from fun K => zbl_n0]
        obtain ⟨b1, b2, b3, b4, r, o1⟩ := over80 (nI n) (nI st) (nI sn) (nI e1) (nI s1) (nI v1) 2 (nI s1) (nI S.length) mhit le1 saw
        exact Or.inr ⟨2, nI s1, by decide, Or.inr ⟨r1, _, _, _, _, _, rfl⟩, b1, b2, b3, b4, r, o1⟩
    · rw [if_neg ck, Option.bind_some, if_pos rfl, if_neg (fun z => ck ((zks3 hk1).mp z)), fln, Option.bind_some]
      obtain ⟨b1, b2, b3, b4, r, o1⟩ := over80 (nI n) (nI st) (nI sn) (nI e1) (nI s1) nu1 1 (nI s1) (nI S.length) mhit le1 saw
      exact Or.inr ⟨1, nI s1, by decide, Or.inr ⟨r1, _, _, _, _, _, rfl⟩, b1, b2, b3, b4, r, o1⟩
  · refine Or.inr ⟨fl, nI s, f0, Or.inl (r1 ff fp), ?_⟩
    unfold fX7_readSaw
    rw [show (6 : Int32) = nI 6 from rfl, r2 nu le f w, Option.bind_some, if_neg (show ¬ (5 : Int32) = 3 by decide), fl5, Option.bind_some]
    exact over80 _ _ _ _ _ _ _ _ _ _ _ _
end PSAW
