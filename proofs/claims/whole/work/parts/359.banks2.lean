/-! banks: what the model finds -/
theorem Sn.mono {d : ld_T} {W : Nat → Bool} {t c : Nat} (h : Sn d W t c) : ∀ k, Sn d W (t + k) c
  | 0 => h
  | k + 1 => Or.inl (Sn.mono h k)
theorem Sn.le {d : ld_T} {W : Nat → Bool} {t u c : Nat} (h : Sn d W t c) (q : t ≤ u) : Sn d W u c := by
  have := Sn.mono h (u - t)
  rwa [show t + (u - t) = u by omega] at this
theorem Sn.lt {d : ld_T} {W : Nat → Bool} : ∀ {t c : Nat}, Sn d W t c → c < cs_ d
  | 0, _, h => h.1
  | t + 1, c, h => by
    rcases h with h | h
    · exact Sn.lt h
    · exact h.1
theorem down_ {d : ld_T} (hd : VD d) {c : Nat} (hc : c < cs_ d) (c0 : ¬ c = 0) : ∃ o, o < c ∧ adj d c o := by
  have h0 : 0 < lw d := by have := hd.1; omega
  by_cases q : c % lw d = 0
  · have cw : lw d ≤ c := by
      rcases Nat.lt_or_ge c (lw d) with z | z
      · rw [Nat.mod_eq_of_lt z] at q
        exact (c0 q).elim
      · exact z
    exact ⟨c - lw d, by omega, 0, by omega, by
      unfold nx
      rw [if_pos rfl, if_neg (by omega)]⟩
  · exact ⟨c - 1, by omega, 3, by omega, by
      unfold nx
      rw [if_neg (by decide), if_neg (by decide), if_neg (by decide), if_pos rfl, if_neg q]⟩
theorem Sn.to0 {d : ld_T} {W : Nat → Bool} (hd : VD d) : ∀ n c, c < n → ∀ t, Sn d W t c → Sn d W (t + c) 0 := by
  intro n
  induction n with
  | zero => intro c h; omega
  | succ n ih =>
    intro c hc t h
    have hcs := h.lt
    by_cases c0 : c = 0
    · subst c0
      exact h
    · obtain ⟨o, ol, ao⟩ := down_ hd hcs c0
      have : Sn d W (t + 1) o := Or.inr ⟨adj_lt hd hcs ao, c, adj_sym hd hcs ao, h⟩
      exact (ih o (by omega) (t + 1) this).le (by omega)
theorem Sn.from0 {d : ld_T} {W : Nat → Bool} (hd : VD d) : ∀ n c, c < n → c < cs_ d → ∀ t, Sn d W t 0 → Sn d W (t + c) c := by
  intro n
  induction n with
  | zero => intro c h; omega
  | succ n ih =>
    intro c hc hcs t h
    by_cases c0 : c = 0
    · subst c0
      exact h
    · obtain ⟨o, ol, ao⟩ := down_ hd hcs c0
      have h1 := ih o (by omega) (by omega) t h
      have : Sn d W (t + o + 1) c := Or.inr ⟨hcs, o, ao, h1⟩
      exact this.le (by omega)
theorem Sn.all {d : ld_T} {W : Nat → Bool} (hd : VD d) {o c : Nat} (ho : o < cs_ d) (w : W o = true) (hc : c < cs_ d) : Sn d W 126 c := by
  have h64 := cs_le hd
  have h0 : Sn d W 0 o := ⟨ho, w⟩
  exact (Sn.from0 hd (c + 1) c (by omega) hc _ (Sn.to0 hd (o + 1) o (by omega) 0 h0)).le (by omega)
/-- the least number of steps, or far -/
def BkS (d : ld_T) (W : Nat → Bool) (f : Nat → Nat) : Prop := ((∀ o, o < cs_ d → W o = false) ∧ ∀ c, c < cs_ d → f c = far_) ∨ ((∃ o, o < cs_ d ∧ W o = true) ∧ ∀ c, c < cs_ d → f c ≤ 126 ∧ Sn d W (f c) c ∧ ∀ t, Sn d W t c → f c ≤ t)
theorem bks_of {d : ld_T} {W : Nat → Bool} {f : Nat → Nat} (hd : VD d) (g : GB d W f) (cl : ∀ i r to, i < cs_ d → r < 4 → nx d i r = some to → f i ≤ f to + 1) : BkS d W f := by
  have hf : far_ = 1000000 := rfl
  have low : ∀ t c, Sn d W t c → f c ≤ t := by
    intro t
    induction t with
    | zero =>
      intro c h
      rw [(g c h.1).2.2 h.2]
      exact Nat.le_refl _
    | succ t ih =>
      intro c h
      rcases h with h | ⟨hc, o, ⟨r, hr, e⟩, h⟩
      · have := ih c h
        omega
      · have := ih o h
        have := cl c r o hc hr e
        omega
  by_cases w : ∃ o, o < cs_ d ∧ W o = true
  · refine Or.inr ⟨w, fun c hc => ?_⟩
    obtain ⟨o, ho, wo⟩ := w
    have l := low 126 c (Sn.all hd ho wo hc)
    refine ⟨l, ?_, fun t => low t c⟩
    rcases (g c hc).1 with u | u
    · omega
    · exact u
  · have nw : ∀ o, o < cs_ d → W o = false := fun o ho => by
      cases e : W o with
      | false => rfl
      | true => exact (w ⟨o, ho, e⟩).elim
    have no : ∀ t c, ¬ Sn d W t c := by
      intro t
      induction t with
      | zero =>
        intro c h
        have := nw c h.1
        rw [h.2] at this
        cases this
      | succ t ih =>
        intro c h
        rcases h with h | ⟨hc, o, _, h⟩
        · exact ih c h
        · exact ih o h
    refine Or.inl ⟨nw, fun c hc => ?_⟩
    rcases (g c hc).1 with u | u
    · exact u
    · exact (no _ _ u).elim
theorem findBanks_ok {Z : Nat → Nat} {J : I_T} {L : L_T} {R : R_T} {d : ld_T} {s : Nat → Bool} (hd : VD d) (r44 : R 68 44 = some 90) (z90 : Z 90 = 64) (e25 : J 68 25 = nI (lw d)) (e26 : J 68 26 = nI (cs_ d)) (hs : ∀ J' : I_T, (∀ a, a ≠ 90 → J' a = J a) → SoilA Z J' L R d s) : ∃ J' bk, D_X11_findBanks Z J L R 68 = some J' ∧ (∀ a, a ≠ 90 → J' a = J a) ∧ (∀ c, c < cs_ d → J' 90 c = nI (bk c)) ∧ BkS d (fun c => !s c) bk := by
  have h64 := cs_le hd
  have hf : far_ = 1000000 := rfl
  have init : ∀ k c, c + k = cs_ d → ∀ (J1 : I_T) (f : Nat → Nat), (∀ a, a ≠ 90 → J1 a = J a) → (∀ i, i < c → J1 90 i = nI (f i) ∧ f i = if s i = true then far_ else 0) → ∃ J' f', itC (B_X11_findBanks_2 Z J L R 68) (nI c, J1) = some J' ∧ LbB d J J' f' ∧ GB d (fun c => !s c) f' ∧ ∀ i r to, i < cs_ d → r < 4 → nx d i r = some to → f' i ≤ f' to + 1 := by
    intro k
    induction k with
    | zero =>
      intro c hc J1 f a b
      have : c = cs_ d := by omega
      subst this
      have f26 : J1 68 26 = nI (cs_ d) := by rw [a 68 (by omega)]; exact e26
      obtain ⟨J2, f2, a2, b2⟩ := bank_out (I := J1) (W := fun c => !s c) hd r44 z90 e25 e26 (sm f (cs_ d) + 1) J1 f (by omega) ⟨a, fun i hi => (b i hi).1⟩ (fun i hi => by
        have bi := (b i hi).2
        show (f i = far_ ∨ Sn d (fun c => !s c) (f i) i) ∧ f i ≤ far_ ∧ ((!s i) = true → f i = 0)
        cases e : s i with
        | true =>
          rw [e, if_pos rfl] at bi
          exact ⟨Or.inl bi, by omega, fun u => by cases u⟩
        | false =>
          rw [e, if_neg (by decide)] at bi
          rw [bi]
          exact ⟨Or.inr ⟨hi, by show (!s i) = true; rw [e]; rfl⟩, by omega, fun _ => rfl⟩)
      refine ⟨J2, f2, itC_inr ?_, b2⟩
      unfold B_X11_findBanks_2
      simp only [f26]
      rw [if_neg Int32.lt_irrefl, D_X11_findBanks_39, a2]
      rfl
    | succ k ih =>
      intro c hc J1 f a b
      have f26 : J1 68 26 = nI (cs_ d) := by rw [a 68 (by omega)]; exact e26
      have sc := hs J1 a c (by omega)
      obtain ⟨J2, f2, a2, b2⟩ := ih (c + 1) (by omega) (up2 J1 90 c (nI (if s c = true then far_ else 0))) (fun i => if i = c then (if s c = true then far_ else 0) else f i) (fun x hx => by rw [up2_ne hx]; exact a x hx) (fun i hi => by
        show _ = nI (if i = c then (if s c = true then far_ else 0) else f i) ∧ (if i = c then (if s c = true then far_ else 0) else f i) = _
        by_cases z : i = c
        · subst z
          rw [if_pos rfl]
          exact ⟨up2_s _ _ _ _, rfl⟩
        · rw [if_neg z, up2_j z]
          exact b i (by omega))
      refine ⟨J2, f2, (itC_inl ?_).trans a2, b2⟩
      unfold B_X11_findBanks_2
      simp only [f26]
      rw [if_pos ((nI_ltI (by omega) (by omega)).mpr (by omega)), r44, bs_, sc, bs_]
      cases e : s c with
      | true =>
        rw [if_neg (show ¬ bI true = 0 by decide), if_pos (inb_nI (by omega) (by omega)), bs_, cl_nI (by omega), nI_1]
        rfl
      | false =>
        rw [if_pos (show bI false = 0 from rfl), if_pos (inb_nI (by omega) (by omega)), bs_, cl_nI (by omega), nI_1]
        rfl
  obtain ⟨J', bk, a, b, g, cl⟩ := init (cs_ d) 0 (by omega) J (fun _ => 0) (fun _ _ => rfl) (fun i hi => by omega)
  exact ⟨J', bk, a, b.1, b.2, bks_of hd g cl⟩
