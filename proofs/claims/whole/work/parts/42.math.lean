/-! faces, covers, ranks, the faces' order: over numbers alone -/
def Sb (a b : Nat) : Prop := ∀ i, a.testBit i = true → b.testBit i = true
theorem Sb.rf (a : Nat) : Sb a a := fun _ h => h
theorem Sb.tr {a b c : Nat} (h : Sb a b) (g : Sb b c) : Sb a c := fun i x => g i (h i x)
theorem Sb.as {a b : Nat} (h : Sb a b) (g : Sb b a) : a = b := Nat.eq_of_testBit_eq fun i => by
  cases ha : a.testBit i
  · cases hb : b.testBit i
    · rfl
    · rw [g i hb] at ha; cases ha
  · exact (h i ha).symm
theorem Sb.le {a b : Nat} (h : Sb a b) : a ≤ b := Nat.le_of_testBit h
theorem Sb.lt {a b : Nat} (h : Sb a b) (g : a ≠ b) : a < b := Nat.lt_of_le_of_ne h.le g
theorem Sb.d {a b : Nat} (h : Sb a b) : dif a b = 0 := dif0.mpr h
theorem Sb.of {a b : Nat} (h : dif a b = 0) : Sb a b := dif0.mp h
theorem sb0 (a : Nat) : Sb 0 a := fun i h => by rw [Nat.zero_testBit] at h; cases h
theorem sb_and {a b c : Nat} : Sb a (b &&& c) ↔ Sb a b ∧ Sb a c := by
  refine ⟨fun h => ⟨fun i x => ?_, fun i x => ?_⟩, fun h i x => ?_⟩
  · have := h i x; rw [Nat.testBit_and, Bool.and_eq_true] at this; exact this.1
  · have := h i x; rw [Nat.testBit_and, Bool.and_eq_true] at this; exact this.2
  · rw [Nat.testBit_and, Bool.and_eq_true]; exact ⟨h.1 i x, h.2 i x⟩
theorem sb_or {a b c : Nat} : Sb (a ||| b) c ↔ Sb a c ∧ Sb b c := by
  refine ⟨fun h => ⟨fun i x => h i ?_, fun i x => h i ?_⟩, fun h i x => ?_⟩
  · rw [Nat.testBit_or, x]; rfl
  · rw [Nat.testBit_or, x, Bool.or_true]
  · rw [Nat.testBit_or, Bool.or_eq_true] at x
    rcases x with x | x
    · exact h.1 i x
    · exact h.2 i x
theorem sb_p2 {p c : Nat} : Sb (2 ^ p) c ↔ c.testBit p = true := by
  refine ⟨fun h => h p Nat.testBit_two_pow_self, fun h i x => ?_⟩
  rw [Nat.testBit_two_pow, decide_eq_true_eq] at x
  rw [← x]; exact h
theorem sb_orl (a b : Nat) : Sb a (a ||| b) := (sb_or.mp (Sb.rf (a ||| b))).1
theorem sb_orr (a b : Nat) : Sb b (a ||| b) := (sb_or.mp (Sb.rf (a ||| b))).2
theorem sb_all {n s : Nat} : Sb s (2 ^ n - 1) ↔ s < 2 ^ n := by
  refine ⟨fun h => lt_of_tb fun i x => ?_, fun h i x => ?_⟩
  · have := h i x; rw [Nat.testBit_two_pow_sub_one, decide_eq_true_eq] at this; exact this
  · rw [Nat.testBit_two_pow_sub_one, decide_eq_true_eq]; exact tb_of_lt h x
theorem sb_lt {n s t : Nat} (h : Sb s t) (ht : t < 2 ^ n) : s < 2 ^ n := Nat.lt_of_le_of_lt h.le ht
theorem sb_ex {a b : Nat} (h : ¬ Sb a b) : ∃ i, a.testBit i = true ∧ b.testBit i = false := by
  apply Classical.byContradiction
  intro g
  refine h fun i hi => ?_
  cases hb : b.testBit i
  · exact absurd ⟨i, hi, hb⟩ g
  · rfl
section FM
variable (n m : Nat) (F : Nat → Nat)
theorem cl_ext {s : Nat} (hs : s < 2 ^ n) : Sb s (cl n m F s) := fun i h => (tb_cl n m F s i).mpr ⟨tb_of_lt hs h, fun k _ hd => Sb.of hd i h⟩
theorem cl_mono {s t : Nat} (h : Sb s t) : Sb (cl n m F s) (cl n m F t) := fun i x => by
  have hx := (tb_cl n m F s i).mp x
  exact (tb_cl n m F t i).mpr ⟨hx.1, fun k hk hd => hx.2 k hk (Sb.tr h (Sb.of hd)).d⟩
theorem cl_idem (s : Nat) : cl n m F (cl n m F s) = cl n m F s := by
  refine Sb.as (fun i x => ?_) (cl_ext n m F (cl_lt n m F s))
  have hx := (tb_cl n m F _ i).mp x
  refine (tb_cl n m F s i).mpr ⟨hx.1, fun k hk hd => hx.2 k hk ?_⟩
  exact Sb.d fun j y => ((tb_cl n m F s j).mp y).2 k hk hd
/-- a face -/
def Fc (s : Nat) : Prop := s < 2 ^ n ∧ cl n m F s = s
theorem fc_cl (s : Nat) : Fc n m F (cl n m F s) := ⟨cl_lt n m F s, cl_idem n m F s⟩
variable {n m F}
theorem cl_le {s t : Nat} (ht : Fc n m F t) (h : Sb s t) : Sb (cl n m F s) t := by
  have := cl_mono n m F h
  rw [ht.2] at this
  exact this
theorem fc_and {a b : Nat} (ha : Fc n m F a) (hb : Fc n m F b) : Fc n m F (a &&& b) := by
  have h := sb_and.mp (Sb.rf (a &&& b))
  have hl := sb_lt h.1 ha.1
  exact ⟨hl, Sb.as (sb_and.mpr ⟨cl_le ha h.1, cl_le hb h.2⟩) (cl_ext n m F hl)⟩
theorem fc_all : Fc n m F (2 ^ n - 1) := by
  have hl : 2 ^ n - 1 < 2 ^ n := by have := p2_pos n; omega
  exact ⟨hl, Sb.as (sb_all.mpr (cl_lt n m F _)) (cl_ext n m F hl)⟩
theorem fc_bot {t : Nat} (ht : Fc n m F t) : Sb (cl n m F 0) t := cl_le ht (sb0 t)
variable (n m F)
/-- up covers lo -/
def Cv (lo up : Nat) : Prop := Sb lo up ∧ lo ≠ up ∧ ∀ p, p < n → up.testBit p = true → lo.testBit p = false → cl n m F (lo ||| 2 ^ p) = up
def fcB (s : Nat) : Bool := Nat.beq (cl n m F s) s
def cvB (lo up : Nat) : Bool := Nat.beq (dif lo up) 0 && (!Nat.beq lo up && (List.range n).all fun p => !up.testBit p || (lo.testBit p || Nat.beq (cl n m F (lo ||| 2 ^ p)) up))
variable {n m F}
theorem beq_t {a b : Nat} : Nat.beq a b = true ↔ a = b := ⟨Nat.eq_of_beq_eq_true, fun h => h ▸ Nat.beq_refl a⟩
theorem fcB_t {s : Nat} (hs : s < 2 ^ n) : fcB n m F s = true ↔ Fc n m F s := by
  unfold fcB
  rw [beq_t]
  exact ⟨fun h => ⟨hs, h⟩, fun h => h.2⟩
theorem cvB_t {lo up : Nat} : cvB n m F lo up = true ↔ Cv n m F lo up := by
  unfold cvB Cv
  rw [Bool.and_eq_true, Bool.and_eq_true, beq_t, List.all_eq_true, Bool.not_eq_true']
  have e : (Nat.beq lo up = false) ↔ lo ≠ up := by
    constructor
    · intro h g; rw [beq_t.mpr g] at h; cases h
    · intro h
      cases hb : Nat.beq lo up
      · rfl
      · exact absurd (beq_t.mp hb) h
  rw [e]
  refine and_congr dif0 (and_congr Iff.rfl ⟨fun h p hp hu hl => ?_, fun h p hp => ?_⟩)
  · have := h p (List.mem_range.mpr hp)
    rw [hu, hl] at this
    exact beq_t.mp (by simpa using this)
  · cases hu : up.testBit p
    · rfl
    · cases hl : lo.testBit p
      · simpa using beq_t.mpr (h p (List.mem_range.mp hp) hu hl)
      · rfl
theorem Cv.lt {lo up : Nat} (h : Cv n m F lo up) : lo < up := h.1.lt h.2.1
/-- between two faces lies one that the upper one covers -/
theorem cv_ex (hs : ∀ {s : Nat}, Fc n m F s → s < 2 ^ n) {s : Nat} (fs : Fc n m F s) : ∀ (d t : Nat), s - t ≤ d → Fc n m F t → Sb t s → t ≠ s → ∃ u, Fc n m F u ∧ Sb t u ∧ Cv n m F u s
  | d, t, hd, ft, h, hne => by
    by_cases g : Cv n m F t s
    · exact ⟨t, ft, Sb.rf t, g⟩
    · have g2 : ∃ p, p < n ∧ s.testBit p = true ∧ t.testBit p = false ∧ cl n m F (t ||| 2 ^ p) ≠ s := by
        apply Classical.byContradiction
        intro z
        refine g ⟨h, hne, fun p hp hu hl => ?_⟩
        apply Classical.byContradiction
        intro z2
        exact z ⟨p, hp, hu, hl, z2⟩
      obtain ⟨p, hp, hu, hl, hq⟩ := g2
      have h1 : Sb (t ||| 2 ^ p) s := sb_or.mpr ⟨h, sb_p2.mpr hu⟩
      have h2 : Sb (cl n m F (t ||| 2 ^ p)) s := cl_le fs h1
      have h3 : Sb (t ||| 2 ^ p) (cl n m F (t ||| 2 ^ p)) := cl_ext n m F (sb_lt h1 (hs fs))
      have h4 : t ≠ cl n m F (t ||| 2 ^ p) := fun z => by
        have := (sb_or.mp h3).2 p Nat.testBit_two_pow_self
        rw [← z, hl] at this
        cases this
      have h5 := ((sb_or.mp h3).1).lt h4
      have h6 := h2.lt hq
      match d, hd with
      | 0, hd => omega
      | d + 1, hd =>
        obtain ⟨u, a1, a2, a3⟩ := cv_ex hs fs d _ (by omega) (fc_cl n m F _) h2 hq
        exact ⟨u, a1, Sb.tr (sb_or.mp h3).1 a2, a3⟩
theorem cv_dn {s t : Nat} (fs : Fc n m F s) (ft : Fc n m F t) (h : Sb t s) (hne : t ≠ s) : ∃ u, Fc n m F u ∧ Sb t u ∧ Cv n m F u s := cv_ex (fun h => h.1) fs (s - t) t (Nat.le_refl _) ft h hne
variable (n m F)
/-- the greatest of v t over those t < k that P holds of; 0 for none -/
def imax (P : Nat → Bool) (v : Nat → Nat) (k : Nat) : Nat := itn (fun t x => if P t = true then max x (v t) else x) 0 k
theorem imax_ge {P : Nat → Bool} {v : Nat → Nat} {k t : Nat} (ht : t < k) (hP : P t = true) : v t ≤ imax P v k := by
  induction k with
  | zero => omega
  | succ k ih =>
    show v t ≤ if P k = true then max (imax P v k) (v k) else imax P v k
    by_cases e : t = k
    · subst e; rw [if_pos hP]; exact Nat.le_max_right _ _
    · have := ih (by omega)
      split
      · exact Nat.le_trans this (Nat.le_max_left _ _)
      · exact this
theorem imax_eq {P : Nat → Bool} {v : Nat → Nat} (k : Nat) : imax P v k = 0 ∨ ∃ t, t < k ∧ P t = true ∧ imax P v k = v t := by
  induction k with
  | zero => exact Or.inl rfl
  | succ k ih =>
    show (if P k = true then max (imax P v k) (v k) else imax P v k) = 0 ∨ _
    have hs : imax P v (k + 1) = if P k = true then max (imax P v k) (v k) else imax P v k := rfl
    by_cases g : P k = true
    · rw [if_pos g] at hs ⊢
      rcases Nat.le_total (imax P v k) (v k) with h | h
      · exact Or.inr ⟨k, by omega, g, by rw [hs]; exact Nat.max_eq_right h⟩
      · rw [Nat.max_eq_left h] at hs ⊢
        rcases ih with z | ⟨t, h1, h2, h3⟩
        · exact Or.inl z
        · exact Or.inr ⟨t, by omega, h2, by rw [hs, h3]⟩
    · rw [if_neg g] at hs ⊢
      rcases ih with z | ⟨t, h1, h2, h3⟩
      · exact Or.inl z
      · exact Or.inr ⟨t, by omega, h2, by rw [hs, h3]⟩
theorem imax_congr {P P' : Nat → Bool} {v v' : Nat → Nat} {k : Nat} (h : ∀ t, t < k → P t = P' t ∧ v t = v' t) : imax P v k = imax P' v' k := by
  induction k with
  | zero => rfl
  | succ k ih =>
    show (if P k = true then max (imax P v k) (v k) else imax P v k) = if P' k = true then max (imax P' v' k) (v' k) else imax P' v' k
    rw [ih (fun t ht => h t (by omega)), (h k (by omega)).1, (h k (by omega)).2]
def lay (R : Nat → Nat) (s : Nat) : Nat := imax (fun t => fcB n m F t && cvB n m F t s) (fun t => R t + 1) s
def rkT (k : Nat) : Nat → Nat := itn (fun s R => up1 R s (lay n m F R s)) (fun _ => 0) k
def rk (s : Nat) : Nat := rkT n m F (s + 1) s
variable {n m F}
theorem rkT_lt {k s : Nat} (h : s < k) : rkT n m F k s = rk n m F s := by
  induction k with
  | zero => omega
  | succ k ih =>
    by_cases e : s = k
    · subst e; rfl
    · show up1 (rkT n m F k) k _ s = _
      rw [up1_ne _ _ e]
      exact ih (by omega)
theorem rk_eq (s : Nat) : rk n m F s = lay n m F (rk n m F) s := by
  show up1 (rkT n m F s) s (lay n m F (rkT n m F s) s) s = _
  rw [up1_at]
  exact imax_congr fun t ht => ⟨rfl, by rw [rkT_lt ht]⟩
theorem rk_cv {s t : Nat} (ft : Fc n m F t) (h : Cv n m F t s) : rk n m F t + 1 ≤ rk n m F s := by
  rw [rk_eq s]
  exact imax_ge (P := fun t => fcB n m F t && cvB n m F t s) (v := fun t => rk n m F t + 1) h.lt (by rw [Bool.and_eq_true]; exact ⟨(fcB_t ft.1).mpr ft, cvB_t.mpr h⟩)
theorem rk_0 {s : Nat} (hs : s < 2 ^ n) : rk n m F s = 0 ∨ ∃ t, Fc n m F t ∧ Cv n m F t s ∧ rk n m F s = rk n m F t + 1 := by
  rw [rk_eq s]
  rcases imax_eq (P := fun t => fcB n m F t && cvB n m F t s) (v := fun t => rk n m F t + 1) s with z | ⟨t, h1, h2, h3⟩
  · exact Or.inl z
  · rw [Bool.and_eq_true] at h2
    exact Or.inr ⟨t, (fcB_t (by omega)).mp h2.1, cvB_t.mp h2.2, h3⟩
/-- ranks rise -/
theorem rk_up : ∀ (d s t : Nat), s ≤ d → Fc n m F s → Fc n m F t → Sb t s → t ≠ s → rk n m F t + 1 ≤ rk n m F s
  | d, s, t, hd, fs, ft, h, hne => by
    obtain ⟨u, h1, h2, h3⟩ := cv_dn fs ft h hne
    have h4 := rk_cv h1 h3
    by_cases e : t = u
    · rw [e]; exact h4
    · match d, hd with
      | 0, hd => have := h3.lt; omega
      | d + 1, hd =>
        have := rk_up d u t (by have := h3.lt; omega) h1 ft h2 e
        omega
theorem rk_lt {s t : Nat} (fs : Fc n m F s) (ft : Fc n m F t) (h : Sb t s) (hne : t ≠ s) : rk n m F t < rk n m F s := rk_up s s t (Nat.le_refl _) fs ft h hne
theorem rk_le {s t : Nat} (fs : Fc n m F s) (ft : Fc n m F t) (h : Sb t s) : rk n m F t ≤ rk n m F s := by
  by_cases e : t = s
  · rw [e]; exact Nat.le_refl _
  · exact Nat.le_of_lt (rk_lt fs ft h e)
end FM
/-- how many points a set below 256 has -/
def pc (s : Nat) : Nat := (List.range 8).countP fun i => s.testBit i
theorem pc_le (s : Nat) : pc s ≤ 8 := List.countP_le_length
theorem pc_mono {s t : Nat} (h : Sb t s) : pc t ≤ pc s := List.countP_mono_left fun i _ x => h i x
theorem cp_lt {α : Type} {P Q : α → Bool} : ∀ {l : List α}, (∀ x ∈ l, P x = true → Q x = true) → (∃ x ∈ l, P x = false ∧ Q x = true) → l.countP P < l.countP Q
  | [], _, ⟨x, h, _⟩ => absurd h List.not_mem_nil
  | a :: l, h1, ⟨x, hx, h2, h3⟩ => by
    have hm : l.countP P ≤ l.countP Q := List.countP_mono_left fun y hy => h1 y (List.mem_cons_of_mem _ hy)
    rcases List.mem_cons.mp hx with e | e
    · subst e
      rw [List.countP_cons_of_neg (by rw [h2]; exact Bool.false_ne_true), List.countP_cons_of_pos h3]
      omega
    · have := cp_lt (fun y hy => h1 y (List.mem_cons_of_mem _ hy)) ⟨x, e, h2, h3⟩
      cases hP : P a
      · cases hQ : Q a
        · rw [List.countP_cons_of_neg (by rw [hP]; exact Bool.false_ne_true), List.countP_cons_of_neg (by rw [hQ]; exact Bool.false_ne_true)]; exact this
        · rw [List.countP_cons_of_neg (by rw [hP]; exact Bool.false_ne_true), List.countP_cons_of_pos hQ]; omega
      · rw [List.countP_cons_of_pos hP, List.countP_cons_of_pos (h1 a List.mem_cons_self hP)]; omega
theorem pc_lt {s t : Nat} (hs : s < 256) (h : Sb t s) (hne : t ≠ s) : pc t < pc s := by
  have h2 : ¬ Sb s t := fun z => hne (Sb.as h z)
  obtain ⟨i, hi, hj⟩ := sb_ex h2
  exact cp_lt (fun x _ y => h x y) ⟨i, List.mem_range.mpr (tb_of_lt (n := 8) hs hi), hj, hi⟩
theorem rk_pc {n m : Nat} {F : Nat → Nat} (hn : n ≤ 8) : ∀ (d s : Nat), s ≤ d → Fc n m F s → rk n m F s ≤ pc s
  | d, s, hd, fs => by
    rcases rk_0 fs.1 with z | ⟨t, h1, h2, h3⟩
    · rw [z]; exact Nat.zero_le _
    · have hl := h2.lt
      have hp := pc_lt (Nat.lt_of_lt_of_le fs.1 (p2_256 hn)) h2.1 h2.2.1
      match d, hd with
      | 0, hd => omega
      | d + 1, hd =>
        have := rk_pc hn d t (by omega) h1
        omega
theorem rk_8 {n m : Nat} {F : Nat → Nat} (hn : n ≤ 8) {s : Nat} (fs : Fc n m F s) : rk n m F s ≤ 8 := Nat.le_trans (rk_pc hn s s (Nat.le_refl _) fs) (pc_le s)
section FL
variable (n m : Nat) (F : Nat → Nat)
/-- the faces of a rank, in the order of their sets; all faces in their order -/
def flR (r k : Nat) : List Nat := (List.range k).filter fun s => fcB n m F s && Nat.beq (rk n m F s) r
def flT (r : Nat) : List Nat := (List.range r).flatMap fun q => flR n m F q (2 ^ n)
def fl : List Nat := flT n m F 9
variable {n m F}
theorem mem_flR {r k s : Nat} (hk : k ≤ 2 ^ n) : s ∈ flR n m F r k ↔ s < k ∧ Fc n m F s ∧ rk n m F s = r := by
  unfold flR
  rw [List.mem_filter, List.mem_range, Bool.and_eq_true, beq_t]
  refine ⟨fun h => ⟨h.1, (fcB_t (Nat.lt_of_lt_of_le h.1 hk)).mp h.2.1, h.2.2⟩, fun h => ⟨h.1, (fcB_t h.2.1.1).mpr h.2.1, h.2.2⟩⟩
theorem mem_flT {r s : Nat} : s ∈ flT n m F r ↔ Fc n m F s ∧ rk n m F s < r := by
  unfold flT
  rw [List.mem_flatMap]
  refine ⟨fun ⟨q, h1, h2⟩ => ?_, fun h => ⟨_, List.mem_range.mpr h.2, (mem_flR (Nat.le_refl _)).mpr ⟨h.1.1, h.1, rfl⟩⟩⟩
  have := (mem_flR (Nat.le_refl _)).mp h2
  exact ⟨this.2.1, by rw [this.2.2]; exact List.mem_range.mp h1⟩
theorem mem_fl (hn : n ≤ 8) {s : Nat} : s ∈ fl n m F ↔ Fc n m F s := mem_flT.trans ⟨fun h => h.1, fun h => ⟨h, Nat.lt_succ_of_le (rk_8 hn h)⟩⟩
/-- in their order: by rank, those of equal rank by their sets -/
def Bf (n m : Nat) (F : Nat → Nat) (s t : Nat) : Prop := rk n m F s < rk n m F t ∨ (rk n m F s = rk n m F t ∧ s < t)
theorem fl_pw (r : Nat) : (flT n m F r).Pairwise (Bf n m F) := by
  unfold flT
  rw [List.pairwise_flatMap]
  refine ⟨fun q _ => ?_, List.pairwise_lt_range.imp fun {a b} hab x hx y hy => ?_⟩
  · have h : (flR n m F q (2 ^ n)).Pairwise (fun a b => a < b) := List.pairwise_lt_range.filter _
    refine List.Pairwise.imp_of_mem (fun {a b} ha hb hab => ?_) h
    have h1 := (mem_flR (Nat.le_refl _)).mp ha
    have h2 := (mem_flR (Nat.le_refl _)).mp hb
    exact Or.inr ⟨by rw [h1.2.2, h2.2.2], hab⟩
  · have h1 := (mem_flR (Nat.le_refl _)).mp hx
    have h2 := (mem_flR (Nat.le_refl _)).mp hy
    exact Or.inl (by rw [h1.2.2, h2.2.2]; exact hab)
theorem fl_nd (r : Nat) : (flT n m F r).Nodup := (fl_pw r).imp fun {a b} h e => by
  subst e
  rcases h with h | h <;> omega
theorem flT_s (r : Nat) : flT n m F (r + 1) = flT n m F r ++ flR n m F r (2 ^ n) := by
  unfold flT
  rw [List.range_succ, List.flatMap_append]
  simp
theorem flR_s (r k : Nat) : flR n m F r (k + 1) = flR n m F r k ++ if (fcB n m F k && Nat.beq (rk n m F k) r) = true then [k] else [] := by
  unfold flR
  rw [List.range_succ, List.filter_append]
  congr 1
  rw [List.filter_cons]
  split <;> simp_all
end FL
