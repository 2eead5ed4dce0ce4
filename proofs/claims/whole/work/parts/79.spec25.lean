/-! 79: rows turned round: down from the highest level, and down from 127 -/
def agrN (m : Nat) (O P : Nat → Nat) : Prop := ∀ j, j < m → O j = P j
theorem rvs_agr {m b e : Nat} {O P : Nat → Nat} (h : agrN m O P) (he : e ≤ m) : agrN m (rvs b e O) (rvs b e P) := by
  intro j hj
  simp only [rvs]
  split
  · exact h _ (by omega)
  · exact h j hj
theorem trS_agr {LV : Nat → Nat} {m v : Nat} {O P : Nat → Nat} (h : agrN m O P) : ∀ i, i ≤ m + 1 → (trS LV m v O i).1 = (trS LV m v P i).1 ∧ agrN m (trS LV m v O i).2 (trS LV m v P i).2
  | 0, _ => ⟨rfl, h⟩
  | i + 1, hi => by
    have ih := trS_agr (LV := LV) (v := v) h i (by omega)
    simp only [trS]
    by_cases z : i = m
    · rw [if_pos (Or.inl z), if_pos (Or.inl z)]
      exact ⟨rfl, by rw [ih.1]; exact rvs_agr ih.2 (by omega)⟩
    · rw [ih.2 i (by omega)]
      split
      · exact ⟨rfl, by rw [ih.1]; exact rvs_agr ih.2 (by omega)⟩
      · exact ih
theorem trow_agr {LV : Nat → Nat} {m v : Nat} {O P : Nat → Nat} (h : agrN m O P) : agrN m (trow LV m v O) (trow LV m v P) := (trS_agr h (m + 1) (Nat.le_refl _)).2
theorem dn_agr {LV : Nat → Nat} {m lo : Nat} : ∀ z O P, agrN m O P → agrN m (dn LV m lo z O) (dn LV m lo z P)
  | 0, _, _, h => h
  | z + 1, O, P, h => by
    simp only [dn]
    split
    · exact h
    · exact dn_agr z _ _ (trow_agr h)
/-- a row of places that are not broken: from b up to e -/
def isR (B : Nat → Prop) (m b e : Nat) : Prop := b ≤ e ∧ e ≤ m ∧ (∀ x, b ≤ x → x < e → ¬ B x) ∧ (b = 0 ∨ B (b - 1)) ∧ (e = m ∨ B e)
/-- what turning the rows round makes of a place -/
def TR (LV : Nat → Nat) (m v : Nat) (O : Nat → Nat) (b i : Nat) (T : Nat → Nat) : Prop := (b ≤ i) ∧ (∀ x, b ≤ x → x < i → x < m → ¬ LV (O x) < v) ∧ (b = 0 ∨ b = m + 1 ∨ LV (O (b - 1)) < v) ∧ (∀ x, b ≤ x → T x = O x) ∧ (∀ x, x < m → LV (O x) < v → T x = O x) ∧ (∀ c e, isR (fun x => LV (O x) < v) m c e → e < b → ∀ x, c ≤ x → x < e → T x = O (c + e - 1 - x))
theorem TR.le {LV : Nat → Nat} {m v : Nat} {O : Nat → Nat} {b i : Nat} {T : Nat → Nat} (h : TR LV m v O b i T) : b ≤ i := h.1
theorem TR.row {LV : Nat → Nat} {m v : Nat} {O : Nat → Nat} {b i : Nat} {T : Nat → Nat} (h : TR LV m v O b i T) : ∀ x, b ≤ x → x < i → x < m → ¬ LV (O x) < v := h.2.1
theorem TR.st {LV : Nat → Nat} {m v : Nat} {O : Nat → Nat} {b i : Nat} {T : Nat → Nat} (h : TR LV m v O b i T) : b = 0 ∨ b = m + 1 ∨ LV (O (b - 1)) < v := h.2.2.1
theorem TR.hi {LV : Nat → Nat} {m v : Nat} {O : Nat → Nat} {b i : Nat} {T : Nat → Nat} (h : TR LV m v O b i T) : ∀ x, b ≤ x → T x = O x := h.2.2.2.1
theorem TR.br {LV : Nat → Nat} {m v : Nat} {O : Nat → Nat} {b i : Nat} {T : Nat → Nat} (h : TR LV m v O b i T) : ∀ x, x < m → LV (O x) < v → T x = O x := h.2.2.2.2.1
theorem TR.rw {LV : Nat → Nat} {m v : Nat} {O : Nat → Nat} {b i : Nat} {T : Nat → Nat} (h : TR LV m v O b i T) : ∀ c e, isR (fun x => LV (O x) < v) m c e → e < b → ∀ x, c ≤ x → x < e → T x = O (c + e - 1 - x) := h.2.2.2.2.2
theorem TR_of {LV : Nat → Nat} {m v : Nat} {O : Nat → Nat} : ∀ i, i ≤ m + 1 → TR LV m v O (trS LV m v O i).1 i (trS LV m v O i).2
  | 0, _ => ⟨Nat.le_refl 0, fun x _ h => absurd h (Nat.not_lt_zero x), Or.inl rfl, fun _ _ => rfl, fun _ _ _ => rfl, fun c e h he => absurd he (Nat.not_lt_zero e)⟩
  | i + 1, hi => by
    have ih := TR_of (LV := LV) (m := m) (v := v) (O := O) i (by omega)
    have hO : (trS LV m v O i).2 i = O i := ih.hi i ih.le
    simp only [trS]
    rw [hO]
    by_cases z : i = m ∨ LV (O i) < v
    · rw [if_pos z]
      have hrow : isR (fun x => LV (O x) < v) m (trS LV m v O i).1 i := by
        refine ⟨ih.le, by omega, fun x h1 h2 => ih.row x h1 h2 (by omega), ?_, z.elim Or.inl (fun q => Or.inr q)⟩
        rcases ih.st with q | q | q
        · exact Or.inl q
        · have := ih.le; omega
        · exact Or.inr q
      refine ⟨Nat.le_refl _, fun x h1 h2 => absurd h2 (by omega), ?_, fun x hx => ?_, fun x h1 h2 => ?_, fun c e h he x h1 h2 => ?_⟩
      · rcases z with q | q
        · exact Or.inr (Or.inl (by omega))
        · exact Or.inr (Or.inr (by simpa using q))
      · simp only [rvs]
        rw [if_neg (by have : i + 1 ≤ x := hx; omega)]
        exact ih.hi x (by have := ih.le; have : i + 1 ≤ x := hx; omega)
      · simp only [rvs]
        rw [if_neg (fun q => ih.row x q.1 q.2 h1 h2)]
        exact ih.br x h1 h2
      · -- a row that ends before i + 1
        have he' : e < i + 1 := he
        rcases Nat.lt_or_ge e (trS LV m v O i).1 with w | w
        · simp only [rvs]
          rw [if_neg (by omega)]
          exact ih.rw c e h w x h1 h2
        · -- it is the row that ends in i
          have hc : (trS LV m v O i).1 ≤ c := by
            rcases Nat.lt_or_ge c (trS LV m v O i).1 with u | u
            · exfalso
              rcases ih.st with q | q | q
              · omega
              · have := ih.le; omega
              · exact h.2.2.1 ((trS LV m v O i).1 - 1) (by omega) (by omega) q
            · exact u
          have hei : e = i := by
            rcases Nat.lt_or_ge e i with u | u
            · rcases h.2.2.2.2 with q | q
              · omega
              · exact absurd q (ih.row e w u (by omega))
            · omega
          have hcb : c = (trS LV m v O i).1 := by
            rcases Nat.lt_or_ge (trS LV m v O i).1 c with u | u
            · rcases h.2.2.2.1 with q | q
              · omega
              · exact absurd q (ih.row (c - 1) (by omega) (by omega) (by omega))
            · omega
          subst hei
          subst hcb
          simp only [rvs]
          rw [if_pos ⟨h1, h2⟩]
          exact ih.hi _ (by omega)
    · rw [if_neg z]
      refine ⟨Nat.le_succ_of_le ih.le, fun x h1 h2 h3 => ?_, ih.st, ih.hi, ih.br, ih.rw⟩
      by_cases e : x = i
      · rw [e]; exact fun q => z (Or.inr q)
      · exact ih.row x h1 (by omega) h3
theorem trow_br {LV : Nat → Nat} {m v : Nat} {O : Nat → Nat} {x : Nat} (h1 : x < m) (h2 : LV (O x) < v) : trow LV m v O x = O x := (TR_of (m + 1) (Nat.le_refl _)).br x h1 h2
theorem trS_end {LV : Nat → Nat} {m v : Nat} {O : Nat → Nat} : (trS LV m v O (m + 1)).1 = m + 1 := by
  show (if m = m ∨ _ then _ else _ : Nat × (Nat → Nat)).1 = _
  rw [if_pos (Or.inl rfl)]
theorem trow_rw {LV : Nat → Nat} {m v : Nat} {O : Nat → Nat} {c e x : Nat} (h : isR (fun x => LV (O x) < v) m c e) (h1 : c ≤ x) (h2 : x < e) : trow LV m v O x = O (c + e - 1 - x) :=
  (TR_of (m + 1) (Nat.le_refl _)).rw c e h (by rw [trS_end]; have := h.2.1; omega) x h1 h2
theorem row_of {B : Nat → Prop} {m x : Nat} (hx : x < m) (hn : ¬ B x) : ∃ c e, isR B m c e ∧ c ≤ x ∧ x < e := by
  have lo : ∀ n c, c ≤ x → x - (x - c) = c → c ≤ n → (∀ y, c ≤ y → y ≤ x → ¬ B y) → ∃ c', c' ≤ x ∧ (∀ y, c' ≤ y → y ≤ x → ¬ B y) ∧ (c' = 0 ∨ B (c' - 1)) := by
    intro n
    induction n with
    | zero => intro c h1 _ h2 h3; exact ⟨c, h1, h3, Or.inl (by omega)⟩
    | succ n ih =>
      intro c h1 h0 h2 h3
      by_cases z : c = 0 ∨ B (c - 1)
      · exact ⟨c, h1, h3, z⟩
      · refine ih (c - 1) (by omega) (by omega) (by omega) (fun y q1 q2 => ?_)
        by_cases w : y = c - 1
        · rw [w]; exact fun q => z (Or.inr q)
        · exact h3 y (by omega) q2
  have up : ∀ n e, x < e → e ≤ m → m - e ≤ n → (∀ y, x ≤ y → y < e → ¬ B y) → ∃ e', x < e' ∧ e' ≤ m ∧ (∀ y, x ≤ y → y < e' → ¬ B y) ∧ (e' = m ∨ B e') := by
    intro n
    induction n with
    | zero => intro e h1 h2 h3 h4; exact ⟨e, h1, h2, h4, Or.inl (by omega)⟩
    | succ n ih =>
      intro e h1 h2 h3 h4
      by_cases z : e = m ∨ B e
      · exact ⟨e, h1, h2, h4, z⟩
      · refine ih (e + 1) (by omega) (by have : e ≠ m := fun q => z (Or.inl q); omega) (by omega) (fun y q1 q2 => ?_)
        by_cases w : y = e
        · rw [w]; exact fun q => z (Or.inr q)
        · exact h4 y q1 (by omega)
  obtain ⟨c, c1, c2, c3⟩ := lo x x (Nat.le_refl x) (by omega) (Nat.le_refl x) (fun y h1 h2 => by rw [show y = x by omega]; exact hn)
  obtain ⟨e, e1, e2, e3, e4⟩ := up m (x + 1) (by omega) hx (by omega) (fun y h1 h2 => by rw [show y = x by omega]; exact hn)
  refine ⟨c, e, ⟨by omega, e2, fun y h1 h2 => ?_, c3, e4⟩, c1, e1⟩
  rcases Nat.lt_or_ge y x with w | w
  · exact c2 y h1 (by omega)
  · exact e3 y w h2
/-- no place is of the level v: turning at v undoes turning at v + 1 -/
theorem trow_undo {LV : Nat → Nat} {m v : Nat} {O : Nat → Nat} (h : ∀ j, j < m → LV (O j) ≠ v) : agrN m (trow LV m v (trow LV m (v + 1) O)) O := by
  have hB : ∀ x, x < m → (LV (O x) < v + 1 ↔ LV (O x) < v) := fun x hx => by have := h x hx; omega
  have hT : ∀ x, x < m → (LV (trow LV m (v + 1) O x) < v ↔ LV (O x) < v) := by
    intro x hx
    by_cases z : LV (O x) < v + 1
    · rw [trow_br hx z]
    · obtain ⟨c, e, hr, h1, h2⟩ := row_of (B := fun x => LV (O x) < v + 1) hx z
      rw [trow_rw hr h1 h2]
      have hn := hr.2.2.1 (c + e - 1 - x) (by omega) (by omega)
      have hm := hr.2.1
      have := h x hx
      simp only at hn
      constructor <;> intro q <;> omega
  intro x hx
  by_cases z : LV (O x) < v
  · rw [trow_br hx ((hT x hx).mpr z), trow_br hx ((hB x hx).mpr z)]
  · obtain ⟨c, e, hr, h1, h2⟩ := row_of (B := fun x => LV (O x) < v) hx z
    have hm := hr.2.1
    have hr1 : isR (fun x => LV (O x) < v + 1) m c e := by
      refine ⟨hr.1, hr.2.1, fun y q1 q2 q => hr.2.2.1 y q1 q2 ((hB y (by omega)).mp q), ?_, ?_⟩
      · rcases hr.2.2.2.1 with q | q
        · exact Or.inl q
        · exact Or.inr ((hB (c - 1) (by omega)).mpr q)
      · rcases hr.2.2.2.2 with q | q
        · exact Or.inl q
        · rcases Nat.lt_or_ge e m with w | w
          · exact Or.inr ((hB e w).mpr q)
          · exact Or.inl (by omega)
    have hr2 : isR (fun x => LV (trow LV m (v + 1) O x) < v) m c e := by
      refine ⟨hr.1, hr.2.1, fun y q1 q2 q => hr.2.2.1 y q1 q2 ((hT y (by omega)).mp q), ?_, ?_⟩
      · rcases hr.2.2.2.1 with q | q
        · exact Or.inl q
        · exact Or.inr ((hT (c - 1) (by omega)).mpr q)
      · rcases hr.2.2.2.2 with q | q
        · exact Or.inl q
        · rcases Nat.lt_or_ge e m with w | w
          · exact Or.inr ((hT e w).mpr q)
          · exact Or.inl (by omega)
    rw [trow_rw hr2 h1 h2, trow_rw hr1 (by omega) (by omega)]
    congr 1; omega
/-- no place reaches the level v: nothing is turned -/
theorem trow_none {LV : Nat → Nat} {m v : Nat} {O : Nat → Nat} (h : ∀ j, j < m → LV (O j) < v) : agrN m (trow LV m v O) O := fun x hx => trow_br hx (h x hx)
theorem trow_lv {LV : Nat → Nat} {m v : Nat} {O : Nat → Nat} {P : Nat → Prop} (h : ∀ j, j < m → P (O j)) : ∀ j, j < m → P (trow LV m v O j) := fun j hj => trS_ne h (m + 1) (Nat.le_refl _) hj
/-- below lo, an odd one, no odd level: the rest is undone -/
theorem dn_low {LV : Nat → Nat} {m : Nat} : ∀ n lo O, lo ≤ n → lo % 2 = 1 → (∀ j, j < m → LV (O j) % 2 = 1 → lo ≤ LV (O j)) → agrN m (dn LV m 1 lo O) O
  | 0, lo, O, h, h1, _ => by omega
  | n + 1, 0, O, _, h1, _ => by omega
  | n + 1, 1, O, _, _, _ => fun j hj => by simp only [dn]; rw [if_pos (by omega)]
  | n + 1, lo + 2, O, h, h1, h2 => by
    have e : dn LV m 1 (lo + 2) O = dn LV m 1 lo (trow LV m lo (trow LV m (lo + 1) O)) := by
      show (if lo + 1 < 1 then O else dn LV m 1 (lo + 1) (trow LV m (lo + 1) O)) = _
      rw [if_neg (by omega)]
      show (if lo < 1 then _ else dn LV m 1 lo (trow LV m lo (trow LV m (lo + 1) O))) = _
      rw [if_neg (by omega)]
    rw [e]
    have hu := trow_undo (LV := LV) (m := m) (v := lo) (O := O) (fun j hj q => by have := h2 j hj (by omega); omega)
    intro j hj
    rw [dn_agr lo _ _ hu j hj]
    exact dn_low n lo O (by omega) (by omega) (fun j hj q => by have := h2 j hj q; omega) j hj
theorem dn_high {LV : Nat → Nat} {m : Nat} : ∀ z z0 O, z0 ≤ z → (∀ j, j < m → LV (O j) < z0) → agrN m (dn LV m 1 z O) (dn LV m 1 z0 O)
  | z, z0, O, h, h2 => by
    induction z with
    | zero => intro j _; rw [show z0 = 0 by omega]
    | succ z ih =>
      by_cases e : z0 = z + 1
      · intro j _; rw [e]
      · have ih := ih (by omega)
        by_cases w : z < 1
        · intro j hj
          simp only [dn]
          rw [if_pos w, show z0 = 0 by omega]
          rfl
        · intro j hj
          have e1 : dn LV m 1 (z + 1) O = dn LV m 1 z (trow LV m z O) := by
            show (if z < 1 then O else _) = _
            rw [if_neg w]
          rw [e1, dn_agr z _ _ (trow_none (fun j hj => by have := h2 j hj; omega)) j hj]
          exact ih j hj
theorem dn_split {LV : Nat → Nat} {m lo : Nat} : ∀ z O, lo ≤ z → 1 ≤ lo → (dn LV m 1 z O) = dn LV m 1 lo (dn LV m lo z O)
  | z, O, h, h1 => by
    induction z generalizing O with
    | zero => omega
    | succ z ih =>
      by_cases e : lo = z + 1
      · subst e
        have : dn LV m (z + 1) (z + 1) O = O := by show (if z < z + 1 then O else _) = _; rw [if_pos (by omega)]
        rw [this]
      · have e1 : dn LV m 1 (z + 1) O = dn LV m 1 z (trow LV m z O) := by
          show (if z < 1 then O else _) = _
          rw [if_neg (by omega)]
        have e2 : dn LV m lo (z + 1) O = dn LV m lo z (trow LV m z O) := by
          show (if z < lo then O else _) = _
          rw [if_neg (by omega)]
        rw [e1, e2]
        exact ih (trow LV m z O) (by omega)
theorem dn_le {LV : Nat → Nat} {m lo z : Nat} {O : Nat → Nat} (h : z ≤ lo) : dn LV m lo z O = O := by
  cases z with
  | zero => rfl
  | succ z => show (if z < lo then O else _) = _; rw [if_pos (by omega)]
theorem dn_lv {LV : Nat → Nat} {m lo : Nat} {P : Nat → Prop} : ∀ z O, (∀ j, j < m → P (O j)) → ∀ j, j < m → P (dn LV m lo z O j)
  | 0, _, h => h
  | z + 1, O, h => by
    simp only [dn]
    split
    · exact h
    · exact dn_lv z _ (trow_lv h)
theorem hiZ_gt {LV O : Nat → Nat} : ∀ i j, j < i → LV (O j) < hiZ LV O i
  | 0, j, h => absurd h (Nat.not_lt_zero j)
  | i + 1, j, h => by
    simp only [hiZ]
    by_cases e : j = i
    · rw [e]; omega
    · have := hiZ_gt (LV := LV) (O := O) i j (by omega); omega
theorem loN_spec {LV O : Nat → Nat} : ∀ i, loN LV O i % 2 = 1 ∧ ∀ j, j < i → LV (O j) % 2 = 1 → loN LV O i ≤ LV (O j)
  | 0 => ⟨(show 127 % 2 = 1 from rfl), fun j h => absurd h (Nat.not_lt_zero j)⟩
  | i + 1 => by
    have ih := loN_spec (LV := LV) (O := O) i
    simp only [loN]
    by_cases z : LV (O i) % 2 = 1
    · rw [if_pos z]
      refine ⟨by rcases Nat.le_total (loN LV O i) (LV (O i)) with w | w; rw [Nat.min_eq_left w]; exact ih.1; rw [Nat.min_eq_right w]; exact z, fun j hj hq => ?_⟩
      by_cases e : j = i
      · rw [e]; omega
      · have := ih.2 j (by omega) hq; omega
    · rw [if_neg z]
      refine ⟨ih.1, fun j hj hq => ?_⟩
      by_cases e : j = i
      · rw [e] at hq; exact absurd hq z
      · exact ih.2 j (by omega) hq
/-- both ways of turning come to one order -/
theorem dn_tie {LV : Nat → Nat} {m : Nat} {O : Nat → Nat} (h : ∀ j, j < m → LV (O j) ≤ 127) : agrN m (dn LV m 1 128 O) (dn LV m (loN LV O m) (hiZ LV O m) O) := by
  have hl := loN_spec (LV := LV) (O := O) m
  have hh := hiZ_le h m (Nat.le_refl m)
  have hg := hiZ_gt (LV := LV) (O := O) m
  intro j hj
  rw [dn_high 128 (hiZ LV O m) O hh (fun j hj => hg j hj) j hj]
  rcases Nat.lt_or_ge (loN LV O m) (hiZ LV O m) with z | z
  · rw [dn_split (lo := loN LV O m) (hiZ LV O m) O (by omega) (by omega)]
    exact dn_low _ _ _ (Nat.le_refl _) hl.1 (dn_lv (P := fun q => LV q % 2 = 1 → loN LV O m ≤ LV q) _ _ hl.2) j hj
  · rw [dn_le z, ← dn_high (loN LV O m) (hiZ LV O m) O z (fun j hj => hg j hj) j hj]
    exact dn_low _ _ _ (Nat.le_refl _) hl.1 hl.2 j hj
