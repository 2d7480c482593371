/-! texts: a text read, both sides -/
def ldm (w h l hr af c : Nat) (hv wv kd pl : Nat → Nat) : ld_T
  | 0 => fun _ => w
  | 1 => fun _ => h
  | 2 => fun _ => l
  | 3 => fun _ => hr
  | 4 => fun _ => af
  | 5 => fun _ => c
  | 6 => fun q => if q < w * h then hv (8 * (q / w) + q % w) else 0
  | 7 => fun q => if q < w * h then wv (8 * (q / w) + q % w) else 0
  | 8 => kd
  | 9 => fun p => w * (pl p / 8) + pl p % 8
  | _ => fun _ => 0
/-- the model's row told holds a land -/
def MLt (K : I_T) (d : ld_T) : Prop := (∀ j, j < 6 → K 78 j = nI (d j 0)) ∧ (∀ r c, r < lh d → c < lw d → K 78 (21 + (8 * r + c)) = nI (d 6 (lw d * r + c)) ∧ K 78 (85 + (8 * r + c)) = nI (d 7 (lw d * r + c))) ∧ ∀ p, p < lpp d → K 78 (6 + p) = nI (d 8 p) ∧ K 78 (16 + p) = nI (d 9 p / lw d) ∧ K 78 (11 + p) = nI (d 9 p % lw d)
theorem toN_ {x : Int32} {v m : Nat} (h : x = nI v) (hv : v ≤ m) (hm : m < 2 ^ 31) : x = nI x.toNatClampNeg ∧ x.toNatClampNeg = v := by
  have e : x.toNatClampNeg = v := by rw [h]; exact cl_nI (by omega)
  exact ⟨by rw [e]; exact h, e⟩
section
variable {Z : Nat → Nat} {L : L_T} {R : R_T} {n : Nat} {T : Nat → Nat}
theorem land_d (lz : LZ Z R 36) {J K1 : I_T} (ld : LD J K1) {w h fc fr : Nat} (jw : J 36 0 = nI w) (jh : J 36 1 = nI h) (w8 : w ≤ 8) (h8 : h ≤ 8) (jc : J 35 9 = nI fc) (jr : J 35 10 = nI fr) (c7 : fc ≤ 7) (r7 : fr ≤ 7) (hc : fc < w) (hr : fr < h) : ∃ d J' L', D_X2_settle Z J L R 36 = some (J', L') ∧ VD d ∧ CL J' L' 36 d ∧ (∀ a, a ≠ 37 → a ≠ 38 → a ≠ 40 → J' a = J a) ∧ (∀ a, a ≠ 36 → L' a = L a) ∧ ∀ K, LD J K → MLt K d := by
  obtain ⟨⟨w', h', l, hr', af, a1, a2, a3, a4, a5, a6, a7, a8, ⟨b1, b2, b3, b4, b5⟩, _⟩, hh, hwk, c, fc', fr', g1, g2, g3, g4, g5, g6, g7, g8, g9, g10⟩ := ld
  have ew : w' = w := (nI_eq (by omega) (by omega)).mp (b1.symm.trans jw)
  have eh : h' = h := (nI_eq (by omega) (by omega)).mp (b2.symm.trans jh)
  have ec : fc' = fc := (nI_eq (by omega) (by omega)).mp (g4.symm.trans jc)
  have er : fr' = fr := (nI_eq (by omega) (by omega)).mp (g7.symm.trans jr)
  subst ew
  subst eh
  subst ec
  subst er
  obtain ⟨hv, hhv⟩ : ∃ hv : Nat → Nat, ∀ i, i < 64 → J 37 i = nI (hv i) ∧ hv i ≤ 9 := ⟨fun i => (J 37 i).toNatClampNeg, fun i hi => by
    obtain ⟨_, v, v9, e⟩ := hh i hi
    obtain ⟨e1, e2⟩ := toN_ e v9 (by omega)
    exact ⟨e1, by show (J 37 i).toNatClampNeg ≤ 9; rw [e2]; exact v9⟩⟩
  obtain ⟨wv, hwv⟩ : ∃ wv : Nat → Nat, ∀ i, i < 64 → J 38 i = nI (wv i) ∧ wv i ≤ 20 := ⟨fun i => (J 38 i).toNatClampNeg, fun i hi => by
    obtain ⟨_, v, v9, e⟩ := hwk i hi
    obtain ⟨e1, e2⟩ := toN_ e v9 (by omega)
    exact ⟨e1, by show (J 38 i).toNatClampNeg ≤ 20; rw [e2]; exact v9⟩⟩
  obtain ⟨kd, hkd⟩ : ∃ kd : Nat → Nat, ∀ p, p < c → J 39 p = nI (kd p) ∧ kd p ≤ 2 := ⟨fun p => (J 39 p).toNatClampNeg, fun p hp => by
    obtain ⟨k, x, y, e1, e2, e3, e4, e5, e6, _⟩ := g10 p hp
    obtain ⟨q1, q2⟩ := toN_ e6 e1 (by omega)
    exact ⟨q1, by show (J 39 p).toNatClampNeg ≤ 2; rw [q2]; exact e1⟩⟩
  obtain ⟨pl, hpl⟩ : ∃ pl : Nat → Nat, ∀ p, p < c → J 40 p = nI (pl p) ∧ pl p % 8 ≤ fc' ∧ pl p / 8 ≤ fr' ∧ pl p < 64 := ⟨fun p => (J 40 p).toNatClampNeg, fun p hp => by
    obtain ⟨k, x, y, e1, e2, e3, e4, e5, _, e7, _⟩ := g10 p hp
    obtain ⟨q1, q2⟩ := toN_ e7 (show 8 * y + x ≤ 63 by omega) (by omega)
    refine ⟨q1, ?_⟩
    show (J 40 p).toNatClampNeg % 8 ≤ fc' ∧ (J 40 p).toNatClampNeg / 8 ≤ fr' ∧ (J 40 p).toNatClampNeg < 64
    rw [q2]
    omega⟩
  obtain ⟨J', L', s1, s2, s3, s4, s5, s6, s7, s8⟩ := settle_ok (L := L) (h0 := hv) (k0 := wv) (x := fun p => pl p % 8) (y := fun p => pl p / 8) lz a1 a2 a3 a4 g1 b1 b2 g2 (fun i hi => (hhv i hi).1) (fun i hi => (hwv i hi).1) (fun p hp => ⟨by show pl p % 8 < 8; omega, by show pl p / 8 < 8; have := (hpl p hp).2.2.2; omega, by rw [(hpl p hp).1]; exact congrArg nI (by show pl p = 8 * (pl p / 8) + pl p % 8; omega)⟩)
  have wh64 : w' * h' ≤ 64 := Nat.le_trans (Nat.mul_le_mul a2 a4) (by omega)
  have dv : ∀ q, q < w' * h' → 8 * (q / w') + q % w' < 64 := fun q hq => by
    have h1 : q / w' < h' := Nat.div_lt_of_lt_mul hq
    have h2 : q % w' < w' := Nat.mod_lt _ (by omega)
    omega
  have pc : ∀ p, p < c → w' * (pl p / 8) + pl p % 8 < w' * h' := fun p hp => by
    obtain ⟨_, p1, p2, _⟩ := hpl p hp
    have : w' * (pl p / 8 + 1) ≤ w' * h' := Nat.mul_le_mul_left _ (by omega)
    rw [Nat.mul_add, Nat.mul_one] at this
    omega
  refine ⟨ldm w' h' l hr' af c hv wv kd pl, J', L', s1, ⟨a1, a2, a3, a4, a5, a6, a7, a8, g1, fun q => ⟨?_, ?_⟩, fun p hp => ⟨(hkd p hp).2, pc p hp⟩⟩, ⟨fun j hj => ?_, fun q hq => ⟨?_, ?_⟩, fun p hp => ⟨?_, ?_⟩, s6, s7, s8⟩, s2, s3, fun K ldK => ?_⟩
  · show (if q < w' * h' then hv (8 * (q / w') + q % w') else 0) ≤ 9
    split
    · exact (hhv _ (dv q ‹_›)).2
    · omega
  · show (if q < w' * h' then wv (8 * (q / w') + q % w') else 0) ≤ 20
    split
    · exact (hwv _ (dv q ‹_›)).2
    · omega
  · rw [s2 36 (by omega) (by omega) (by omega)]
    have : j = 0 ∨ j = 1 ∨ j = 2 ∨ j = 3 ∨ j = 4 ∨ j = 5 := by omega
    rcases this with rfl | rfl | rfl | rfl | rfl | rfl
    · exact b1
    · exact b2
    · exact b3
    · exact b4
    · exact b5
    · exact g2
  · rw [(s4 q hq).1]
    exact congrArg nI (if_pos hq).symm
  · rw [(s4 q hq).2]
    exact congrArg nI (if_pos hq).symm
  · rw [s2 39 (by omega) (by omega) (by omega)]
    exact (hkd p hp).1
  · exact s5 p hp
  · obtain ⟨⟨w2, h2, l2, hr2, af2, _, q2, _, q4, q5, _, q7, q8, ⟨y1, y2, y3, y4, y5⟩, x1, x2, x3, x4, x5⟩, kh, kw, c2, fc2, fr2, p1, p2, p3, p4, p5, p6, p7, p8, p9, p10⟩ := ldK
    have e1 : w2 = w' := (nI_eq (by omega) (by omega)).mp (y1.symm.trans b1)
    have e2 : h2 = h' := (nI_eq (by omega) (by omega)).mp (y2.symm.trans b2)
    have e3 : l2 = l := (nI_eq (by omega) (by omega)).mp (y3.symm.trans b3)
    have e4 : hr2 = hr' := (nI_eq (by omega) (by omega)).mp (y4.symm.trans b4)
    have e5 : af2 = af := (nI_eq (by omega) (by omega)).mp (y5.symm.trans b5)
    have e6 : c2 = c := (nI_eq (by omega) (by omega)).mp (p2.symm.trans g2)
    subst e1
    subst e2
    subst e3
    subst e4
    subst e5
    subst e6
    refine ⟨fun j hj => ?_, fun r q hr2 hq => ?_, fun p hp => ?_⟩
    · have : j = 0 ∨ j = 1 ∨ j = 2 ∨ j = 3 ∨ j = 4 ∨ j = 5 := by omega
      rcases this with rfl | rfl | rfl | rfl | rfl | rfl
      · exact x1
      · exact x2
      · exact x3
      · exact x4
      · exact x5
      · exact p3
    · have hr3 : r < h2 := hr2
      have hq3 : q < w2 := hq
      obtain ⟨d1, d2⟩ := dm_ (r := r) hq3
      have lt : w2 * r + q < w2 * h2 := by
        have : w2 * (r + 1) ≤ w2 * h2 := Nat.mul_le_mul_left _ (by omega)
        rw [Nat.mul_add, Nat.mul_one] at this
        omega
      have i64 : 8 * r + q < 64 := by omega
      constructor
      · rw [← (kh _ i64).1, (hhv _ i64).1]
        refine congrArg nI ?_
        show hv (8 * r + q) = if w2 * r + q < w2 * h2 then hv (8 * ((w2 * r + q) / w2) + (w2 * r + q) % w2) else 0
        rw [if_pos lt, d1, d2]
      · rw [← (kw _ i64).1, (hwv _ i64).1]
        refine congrArg nI ?_
        show wv (8 * r + q) = if w2 * r + q < w2 * h2 then wv (8 * ((w2 * r + q) / w2) + (w2 * r + q) % w2) else 0
        rw [if_pos lt, d1, d2]
    · obtain ⟨k, x, y, z1, z2, z3, z4, z5, z6, z7, z8, z9, z10⟩ := p10 p hp
      obtain ⟨v1, v2, v3, v4⟩ := hpl p hp
      have e7 : pl p = 8 * y + x := (nI_eq (by omega) (by omega)).mp (v1.symm.trans z7)
      have e8 : kd p = k := (nI_eq (by have := (hkd p hp).2; omega) (by omega)).mp ((hkd p hp).1.symm.trans z6)
      obtain ⟨d1, d2⟩ := dm_ (w := w2) (r := pl p / 8) (c := pl p % 8) (by omega)
      refine ⟨z8.trans (congrArg nI e8.symm), z10.trans (congrArg nI ?_), z9.trans (congrArg nI ?_)⟩
      · show y = (w2 * (pl p / 8) + pl p % 8) / w2
        rw [d1]
        omega
      · show x = (w2 * (pl p / 8) + pl p % 8) % w2
        rw [d2]
        omega
theorem t137_0 (r3 : R 68 3 = some 71) (r4 : R 68 4 = some 72) (z71 : Z 71 = 4) (z72 : Z 72 = 4) (K : I_T) (L : L_T) : D_X11_readText_137 Z K L R 68 0 = some (0, up2 (up2 K 71 0 1) 72 0 (K 68 16), L) := by
  rw [D_X11_readText_137, r3, bs_, if_pos rfl, D_X11_readText_154, z71, if_pos (show inb 0 4 = true from rfl), bs_, r4, bs_, if_pos rfl, D_X11_readText_186, z72, if_pos (show inb 0 4 = true from rfl), bs_, r3, bs_, z71, if_pos (show inb 0 4 = true from rfl), show (0 : Int32).toNatClampNeg = 0 from rfl, up2_ne (show (68 : Nat) ≠ 71 by decide), if_neg (show ¬ up2 (up2 K 71 0 1) 72 0 (K 68 16) 71 0 = 0 by rw [up2_ne (by omega), up2_s]; decide)]
theorem t137_1 (r3 : R 68 3 = some 71) (r4 : R 68 4 = some 72) (z71 : Z 71 = 4) (z72 : Z 72 = 4) {K : I_T} {F : Nat × Nat} (mf : MF K F) (L : L_T) : D_X11_readText_137 Z K L R 68 1 = some (if F.1 = 0 then 1 else 0, up2 (up2 K 71 0 (nI F.1)) 72 0 (if F.1 = 0 then -1 else nI F.2), L) := by
  obtain ⟨m1, m2, m3, m4⟩ := mf
  have e0 : ∀ x : Int32, up2 (up2 K 71 0 (nI F.1)) 72 0 x 71 0 = nI F.1 := fun x => by rw [up2_ne (by omega), up2_s]
  rw [D_X11_readText_137, r3, bs_, if_neg (show ¬ (1 : Int32) = 0 by decide), m1, D_X11_readText_154, z71, if_pos (show inb 0 4 = true from rfl), bs_, r4, bs_, if_neg (show ¬ (1 : Int32) = 0 by decide), show (0 : Int32).toNatClampNeg = 0 from rfl, up2_ne (show (68 : Nat) ≠ 71 by decide), m1]
  by_cases z : F.1 = 0
  · rw [if_neg (show ¬ 0 < nI F.1 by rw [z]; decide), D_X11_readText_186, z72, if_pos (show inb 0 4 = true from rfl), bs_, r3, bs_, z71, if_pos (show inb 0 4 = true from rfl), show (0 : Int32).toNatClampNeg = 0 from rfl, if_pos (show up2 (up2 K 71 0 (nI F.1)) 72 0 (-1) 71 0 = 0 by rw [e0, z]; rfl), if_pos z, if_pos z]
  · rw [if_pos ((ln_lt (k := 0) (j := 0) rfl (by omega) (by omega)).mpr (by omega)), m2 z, D_X11_readText_186, z72, if_pos (show inb 0 4 = true from rfl), bs_, r3, bs_, z71, if_pos (show inb 0 4 = true from rfl), show (0 : Int32).toNatClampNeg = 0 from rfl, if_neg (show ¬ up2 (up2 K 71 0 (nI F.1)) 72 0 (nI F.2) 71 0 = 0 by rw [e0]; exact fun u => z ((nl_eq (k := 0) (j := 0) rfl (by omega) (by omega)).mp u)), if_neg z, if_neg z]
theorem FEq_lt {v : Int32} {c w : Nat} (h : FEq v c) (hc : c < 100) (hw : 2 ≤ w) (hw2 : w < 100) : v < nI w ↔ c < w := by
  rcases h with h | ⟨h1, h2⟩
  · rw [h]
    exact nI_ltI (by omega) (by omega)
  · rw [h1, h2]
    refine ⟨fun _ => by omega, fun _ => ?_⟩
    refine Int32.lt_iff_toInt_lt.mpr ?_
    rw [show (-1 : Int32).toInt = -1 by decide, nI_toInt (by omega)]
    omega
end
