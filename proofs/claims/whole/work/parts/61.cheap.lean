/-! the class's heaps -/
theorem ex_eq {β : Type} {o : Option β} {r : β} (h : ∃ r', o = some r' ∧ r' = r) : o = some r := by
  obtain ⟨r', h1, h2⟩ := h
  rw [h1, h2]
def rtF (up : Nat → Nat) : Nat → Nat → Nat
  | 0, k => k
  | f + 1, k => if up k = k then k else rtF up f (up k)
def rt (up : Nat → Nat) (k : Nat) : Nat := rtF up k k
theorem rtF_ge {up : Nat → Nat} (h : ∀ k, up k ≤ k) : ∀ (f k : Nat), k ≤ f → rtF up f k = rtF up k k := by
  intro f
  induction f with
  | zero => intro k hk; rw [show k = 0 by omega]
  | succ f ih =>
    intro k hk
    by_cases e : up k = k
    · cases k with
      | zero => show (if up 0 = 0 then 0 else _) = 0; rw [if_pos e]
      | succ k => show (if up (k + 1) = k + 1 then _ else _) = (if up (k + 1) = k + 1 then _ else _); rw [if_pos e, if_pos e]
    · have h1 := h k
      cases k with
      | zero => omega
      | succ k =>
        show (if up (k + 1) = k + 1 then _ else rtF up f (up (k + 1))) = (if up (k + 1) = k + 1 then _ else rtF up k (up (k + 1)))
        rw [if_neg e, if_neg e, ih (up (k + 1)) (by omega)]
        by_cases z : k = f
        · subst z; rw [ih (up (k + 1)) (by omega)]
        · have : ∀ g, up (k + 1) ≤ g → g ≤ f → rtF up g (up (k + 1)) = rtF up (up (k + 1)) (up (k + 1)) := by
            intro g
            induction g with
            | zero => intro q _; rw [show up (k + 1) = 0 by omega]
            | succ g ihg =>
              intro q1 q2
              by_cases y : up (k + 1) = g + 1
              · rw [y]
              · have y1 := ihg (by omega) (by omega)
                rw [← y1]
                have mono : ∀ (g j : Nat), j ≤ g → rtF up (g + 1) j = rtF up g j := by
                  intro g
                  induction g with
                  | zero => intro j hj; rw [show j = 0 by omega]; show (if up 0 = 0 then 0 else _) = 0; rw [if_pos (by have := h 0; omega)]
                  | succ g ihm =>
                    intro j hj
                    show (if up j = j then j else rtF up (g + 1) (up j)) = (if up j = j then j else rtF up g (up j))
                    by_cases x : up j = j
                    · rw [if_pos x, if_pos x]
                    · rw [if_neg x, if_neg x, ihm (up j) (by have := h j; omega)]
                exact mono g _ (by omega)
          rw [this k (by omega) (by omega)]
theorem rt_root {up : Nat → Nat} {k : Nat} (e : up k = k) : rt up k = k := by
  unfold rt
  cases k with
  | zero => rfl
  | succ k => show (if up (k + 1) = k + 1 then _ else _) = _; rw [if_pos e]
theorem rt_step {up : Nat → Nat} (h : ∀ k, up k ≤ k) {k : Nat} (e : up k ≠ k) : rt up k = rt up (up k) := by
  have h1 := h k
  unfold rt
  cases k with
  | zero => omega
  | succ k =>
    show (if up (k + 1) = k + 1 then _ else rtF up k (up (k + 1))) = _
    rw [if_neg e]
    exact rtF_ge h k _ (by omega)
theorem rt_le {up : Nat → Nat} (h : ∀ k, up k ≤ k) (k : Nat) : rt up k ≤ k := by
  induction k using Nat.strongRecOn with
  | _ k ih =>
    by_cases e : up k = k
    · rw [rt_root e]; exact Nat.le_refl _
    · rw [rt_step h e]
      have := h k
      have := ih (up k) (by omega)
      omega
theorem rt_up {up : Nat → Nat} (h : ∀ k, up k ≤ k) (k : Nat) : up (rt up k) = rt up k := by
  induction k using Nat.strongRecOn with
  | _ k ih =>
    by_cases e : up k = k
    · rw [rt_root e, e]
    · rw [rt_step h e]
      have := h k
      exact ih (up k) (by omega)
def upJ (up : Nat → Nat) (M m : Nat) (k : Nat) : Nat := if k = M then m else up k
theorem rt_join {up : Nat → Nat} (h : ∀ k, up k ≤ k) {M m : Nat} (hM : up M = M) (hm : up m = m) (hl : m < M) (k : Nat) : rt (upJ up M m) k = if rt up k = M then m else rt up k := by
  have h' : ∀ k, upJ up M m k ≤ k := fun k => by
    unfold upJ
    split
    · omega
    · exact h k
  have hm' : upJ up M m m = m := by unfold upJ; rw [if_neg (by omega)]; exact hm
  induction k using Nat.strongRecOn with
  | _ k ih =>
    by_cases e : up k = k
    · rw [rt_root e]
      by_cases q : k = M
      · rw [if_pos q]
        have e2 : upJ up M m k = m := if_pos q
        rw [rt_step h' (by rw [e2]; omega), e2, rt_root hm']
      · rw [if_neg q]
        exact rt_root (by unfold upJ; rw [if_neg q]; exact e)
    · have q : k ≠ M := fun z => e (by rw [z]; exact hM)
      have e2 : upJ up M m k = up k := if_neg q
      have h1 := h k
      rw [rt_step h' (by rw [e2]; exact e), e2, rt_step h e]
      exact ih (up k) (by omega)
theorem Conn.mono {R S : List (Nat × Nat)} {a b : Nat} (h : Conn R a b) (g : ∀ q ∈ R, q ∈ S) : Conn S a b := fun E h1 h2 h3 h4 => h E h1 h2 h3 (fun q hq => h4 q (g q hq))
theorem IsLab.conn {n : Nat} {R : List (Nat × Nat)} {l : Nat → Nat} (h : IsLab n R l) {a b : Nat} (ha : a < n) (hb : b < n) : Conn R a b ↔ l a = l b := by
  constructor
  · exact fun q => h.cst q
  · intro e
    have h1 := h.2.1 a ha
    have h2 := h.2.1 b hb
    rw [e] at h1
    exact h1.sy.tr h2
theorem IsLab.same {n : Nat} {R : List (Nat × Nat)} {l : Nat → Nat} (h : IsLab n R l) {a b : Nat} (e : l a = l b) : IsLab n (R ++ [(a, b)]) l :=
  ⟨h.1, fun k hk => (h.2.1 k hk).mono (fun q hq => List.mem_append_left _ hq), fun q hq => by
    rcases List.mem_append.mp hq with z | z
    · exact h.2.2 q z
    · rw [List.mem_singleton.mp z]; exact e⟩
theorem IsLab.join {n : Nat} {R : List (Nat × Nat)} {l l' : Nat → Nat} (h : IsLab n R l) {a b M m : Nat} (ha : a < n) (hb : b < n) (hab : (l a = M ∧ l b = m) ∨ (l a = m ∧ l b = M)) (hl : m < M) (e : ∀ k, l' k = if l k = M then m else l k) : IsLab n (R ++ [(a, b)]) l' := by
  have mono : ∀ {u v : Nat}, Conn R u v → Conn (R ++ [(a, b)]) u v := fun q => q.mono (fun q hq => List.mem_append_left _ hq)
  have hc : Conn (R ++ [(a, b)]) a b := Conn.of (q := (a, b)) (List.mem_append_right _ (List.mem_singleton.mpr rfl))
  have hmM : Conn (R ++ [(a, b)]) m M := by
    rcases hab with ⟨h1, h2⟩ | ⟨h1, h2⟩
    · have x1 := mono (h.2.1 a ha)
      have x2 := mono (h.2.1 b hb)
      rw [h1] at x1
      rw [h2] at x2
      exact (x2.tr hc.sy).tr x1.sy
    · have x1 := mono (h.2.1 a ha)
      have x2 := mono (h.2.1 b hb)
      rw [h1] at x1
      rw [h2] at x2
      exact (x1.tr hc).tr x2.sy
  refine ⟨fun k hk => ?_, fun k hk => ?_, fun q hq => ?_⟩
  · have := h.1 k hk
    rw [e k]
    split <;> omega
  · have x := mono (h.2.1 k hk)
    rw [e k]
    split
    · rename_i z
      rw [z] at x
      exact hmM.tr x
    · exact x
  · rcases List.mem_append.mp hq with z | z
    · rw [e, e, h.2.2 q z]
    · rw [List.mem_singleton.mp z, e, e]
      dsimp only
      rcases hab with ⟨h1, h2⟩ | ⟨h1, h2⟩
      · rw [h1, h2, if_pos rfl, if_neg (by omega)]
      · rw [h1, h2, if_pos rfl, if_neg (by omega)]
theorem roots_join {l l' : Nat → Nat} {M m : Nat} (hM : l M = M) (hm : l m = m) (hl : m < M) (e : ∀ k, l' k = if l k = M then m else l k) : ∀ n, roots l' n + (if M < n then 1 else 0) = roots l n
  | 0 => by rw [if_neg (by omega)]; rfl
  | n + 1 => by
    have ih := roots_join hM hm hl e n
    rw [roots_s, roots_s, e n]
    by_cases q : n = M
    · subst q
      rw [if_neg (by omega : ¬ n < n)] at ih
      rw [hM, if_pos rfl, if_neg (by omega : ¬ m = n), if_pos rfl, if_pos (by omega : n < n + 1)]
      omega
    · have e1 : (M < n + 1) = (M < n) := propext (by omega)
      simp only [e1]
      by_cases z : l n = M
      · rw [if_pos z, if_neg (by omega : ¬ l n = n)]
        by_cases y : m = n
        · rw [y] at hm; omega
        · rw [if_neg y]; omega
      · rw [if_neg z]; omega
/-- the heaps hold n things, joined by R -/
def Hp (A : AH) (x n : Nat) (R : List (Nat × Nat)) : Prop := n ≤ 32 ∧ Hi A 129 (x + 20) = I n ∧ ∃ up : Nat → Nat, (∀ k, up k ≤ k) ∧ (∀ k, k < n → He A (x + 21) k = I (up k)) ∧ IsLab n R (rt up) ∧ Hi A 130 (x + 20) = I (roots (rt up) n)
abbrev hS (x a : Nat) : Prop := a = x + 20 ∨ a = x + 21
section
variable {A : AH} {x n : Nat} {R : List (Nat × Nat)}
theorem Hp.lab (h : Hp A x n R) : IsLab n R (theLab n R) := by
  obtain ⟨-, -, up, -, -, h4, -⟩ := h
  exact h4.isThe
theorem C_scatter2 (hC : CI A x) (hn : n ≤ 32) : ∃ A', fX4_scatter A (some (x + 20)) (I n) = some A' ∧ Fr (hS x) A A' ∧ Hp A' x n [] ∧ Hs A' = Hs A := by
  have hs := hC.2.2
  unfold fX4_scatter
  rw [rcv_ok hC.k20, bs, hC.hp2, bs, aL_at hC.k21, bs, C_min A (by omega) (by omega), bs, L_0, C_max A (by omega) (by omega), bs, show max 0 (min (n : Int) ((32 : Nat) : Int)) = (n : Int) by omega, pI_ok hC.k20, bs, gI_ok (A := si A 129 (x + 20) (I n)) hC.k20, bs, hi_si, pI_ok (A := si A 129 (x + 20) (I n)) hC.k20, bs]
  refine for_eb n (fun j u => u.1 = I j ∧ Fr (hS x) A u.2 ∧ Hi u.2 129 (x + 20) = I n ∧ Hi u.2 130 (x + 20) = I n ∧ Hs u.2 = Hs A ∧ ∀ k, k < j → He u.2 (x + 21) k = I k) (fun r => Fr (hS x) A r ∧ Hp r x n [] ∧ Hs r = Hs A) ⟨rfl, (Fr.rf.wI (Or.inl (Or.inl rfl)) (by omega)).wI (Or.inl (Or.inl rfl)) (by show x + 20 < Hs A; omega), by dsimp only; rw [hi_si_ne (by decide), hi_si], hi_si, rfl, fun k hk => by omega⟩ ?_ ?_ (fun r hr => ⟨r, rfl, hr⟩)
  · rintro j ⟨u1, u2⟩ hj ⟨e1, g, e2, e3, eh, e4⟩
    dsimp only at e1 g e2 e3 eh e4 ⊢
    subst e1
    have hC' := hC.fr g
    have hs' := hC'.2.2
    rw [gI_ok hC'.k20, bs, e2, if_neg (le_n (by omega)), hC'.hp2, bs, sI_at hC'.k21 (by omega) (by omega), bs]
    refine ⟨_, rfl, by dsimp only; rw [L_1, I_add, ← cst], g.wE (Or.inl (Or.inr rfl)) (by omega), e2, e3, eh, fun k hk => ?_⟩
    dsimp only
    rw [he_se]
    split
    · rename_i q; rw [q]
    · exact e4 k (by omega)
  · rintro ⟨u1, u2⟩ ⟨e1, g, e2, e3, eh, e4⟩
    dsimp only at e1 g e2 e3 eh e4 ⊢
    subst e1
    have hC' := hC.fr g
    have r0 : ∀ k, rt (fun k => k) k = k := fun k => rt_root rfl
    have rr : ∀ n, roots (rt (fun k => k)) n = n := by
      intro n
      induction n with
      | zero => rfl
      | succ n ih => rw [roots_s, ih, if_pos (r0 n)]
    exact ⟨u2, by rw [gI_ok hC'.k20, bs, e2, if_pos (le_y (by omega))], g, ⟨hn, e2, fun k => k, fun _ => Nat.le_refl _, e4, ⟨fun k _ => by rw [r0]; exact Nat.le_refl _, fun k _ => by rw [r0]; exact Conn.rf k, fun q hq => absurd hq List.not_mem_nil⟩, by rw [rr]; exact e3⟩, eh⟩
theorem C_scatter (hC : CI A x) (hn : n ≤ 32) : ∃ A', fX4_scatter A (some (x + 20)) (I n) = some A' ∧ Fr (hS x) A A' ∧ Hp A' x n [] := by
  obtain ⟨A', h1, h2, h3, -⟩ := C_scatter2 hC hn
  exact ⟨A', h1, h2, h3⟩
theorem C_lw (hC : CI A x) (hn : n ≤ 32) (h129 : Hi A 129 (x + 20) = I n) {up : Nat → Nat} (hu : ∀ k, up k ≤ k) (he : ∀ k, k < n → He A (x + 21) k = I (up k)) {a : Nat} (ha : a < n) : fX4_leastWith A (some (x + 20)) (I a) = some (I (rt up a)) := by
  have rd : ∀ k : Nat, k < n → aI A 14 (some (x + 21)) (I (k : Int)) = some (I (up k)) := fun k hk => by rw [aI_at hC.k21 (by omega) (by omega), he k hk]
  unfold fX4_leastWith
  rw [rcv_ok hC.k20, bs, L_0, if_neg (lt_n (by omega)), gI_ok hC.k20, bs, h129, if_pos (lt_y (by omega))]
  refine ex_eq ?_
  refine srch_eb a (fun j u => ∃ k : Nat, u = (I (k : Int), I (j : Int)) ∧ k + j ≤ a ∧ rt up k = rt up a) (fun r => r = I (rt up a)) ⟨a, rfl, by omega, rfl⟩ ?_ ?_ (fun r hr => ⟨_, rfl, hr⟩)
  · rintro j u hj ⟨k, rfl, hk, hr⟩
    have h1 := hu k
    dsimp only
    rw [bs, if_neg (le_n (by omega)), hC.hp2, bs, rd k (by omega), bs]
    by_cases e : up k = k
    · right
      rw [if_pos (by rw [e])]
      exact ⟨_, rfl, by rw [← hr, rt_root e]⟩
    · left
      rw [if_neg (eq_n (by omega)), bs, rd k (by omega), bs]
      exact ⟨_, rfl, up k, by rw [L_1, I_add, ← cst], by omega, by rw [← hr, rt_step hu e]⟩
  · rintro u ⟨k, rfl, hk, hr⟩
    have hk0 : k = 0 := by omega
    subst hk0
    have h1 := hu 0
    have e : up 0 = 0 := by omega
    dsimp only
    rw [bs, if_neg (le_n (by omega)), hC.hp2, bs, rd 0 (by omega), bs, if_pos (by rw [e])]
    exact ⟨_, rfl, by rw [← hr, rt_root e]⟩
theorem C_least (hC : CI A x) (h : Hp A x n R) {a : Nat} (ha : a < n) : fX4_leastWith A (some (x + 20)) (I a) = some (I (theLab n R a)) := by
  obtain ⟨h1, h2, up, h3, h4, h5, h6⟩ := h
  rw [C_lw hC h1 h2 h3 h4 ha, h5.the a ha]
theorem C_hcount (hC : CI A x) (h : Hp A x n R) : fX4_count A (some (x + 20)) = some (I (comps n R)) := by
  obtain ⟨h1, h2, up, h3, h4, h5, h6⟩ := h
  unfold fX4_count
  rw [rcv_ok hC.k20, bs, gI_ok hC.k20, bs, h6, comps_of h5]
theorem C_join2 (hC : CI A x) (h : Hp A x n R) {a b : Nat} (ha : a < n) (hb : b < n) : ∃ A', fX4_join A (some (x + 20)) (I a) (I b) = some A' ∧ Fr (hS x) A A' ∧ Hp A' x n (R ++ [(a, b)]) ∧ Hs A' = Hs A := by
  obtain ⟨h1, h2, up, h3, h4, h5, h6⟩ := h
  have hs := hC.2.2
  have la := rt_le h3 a
  have lb := rt_le h3 b
  have ua := rt_up h3 a
  have ub := rt_up h3 b
  have hrl := roots_le (rt up) n
  unfold fX4_join
  rw [rcv_ok hC.k20, bs, C_lw hC h1 h2 h3 h4 ha, bs, C_lw hC h1 h2 h3 h4 hb, bs, show ((-1) : Int32) = I (-1) from rfl, if_neg (eq_n (by omega)), if_neg (eq_n (by omega))]
  by_cases q : rt up a = rt up b
  · rw [if_pos (by rw [q])]
    exact ⟨_, rfl, Fr.rf, ⟨h1, h2, up, h3, h4, h5.same q, h6⟩, rfl⟩
  rw [if_neg (eq_n (by omega)), hC.hp2, bs, C_max A (by omega) (by omega), bs, C_min A (by omega) (by omega), bs]
  obtain ⟨M, hMe⟩ : ∃ M, M = max (rt up a) (rt up b) := ⟨_, rfl⟩
  obtain ⟨m, hme⟩ : ∃ m, m = min (rt up a) (rt up b) := ⟨_, rfl⟩
  have hab : (rt up a = M ∧ rt up b = m) ∨ (rt up a = m ∧ rt up b = M) := by omega
  have hml : m < M := by omega
  have hMn : M < n := by omega
  have uM : up M = M := by rcases hab with ⟨z, -⟩ | ⟨-, z⟩ <;> rw [← z] <;> assumption
  have um : up m = m := by rcases hab with ⟨-, z⟩ | ⟨z, -⟩ <;> rw [← z] <;> assumption
  rw [show max (rt up a : Int) (rt up b : Int) = (M : Int) by omega, show min (rt up a : Int) (rt up b : Int) = (m : Int) by omega, sI_at hC.k21 (by omega) (by omega), bs, gI_ok (A := se A (x + 21) M (I m)) hC.k20, bs, pI_ok (A := se A (x + 21) M (I m)) hC.k20, bs, hi_se, h6, L_1, I_sub]
  have rj := rt_join h3 uM um hml
  have hrj := roots_join (l := rt up) (l' := rt (upJ up M m)) (rt_root uM) (rt_root um) hml rj n
  rw [if_pos hMn] at hrj
  refine ⟨_, rfl, (Fr.rf.wE (Or.inl (Or.inr rfl)) (by omega)).wI (Or.inl (Or.inl rfl)) (by show x + 20 < Hs A; omega), ⟨h1, by rw [hi_si_ne (by decide), hi_se]; exact h2, upJ up M m, fun k => ?_, fun k hk => ?_, h5.join ha hb hab hml rj, by rw [hi_si]; congr 1; omega⟩, rfl⟩
  · unfold upJ
    split
    · omega
    · exact h3 k
  · rw [he_si, he_se]
    unfold upJ
    split
    · rfl
    · exact h4 k hk
theorem C_join (hC : CI A x) (h : Hp A x n R) {a b : Nat} (ha : a < n) (hb : b < n) : ∃ A', fX4_join A (some (x + 20)) (I a) (I b) = some A' ∧ Fr (hS x) A A' ∧ Hp A' x n (R ++ [(a, b)]) := by
  obtain ⟨A', h1, h2, h3, -⟩ := C_join2 hC h ha hb
  exact ⟨A', h1, h2, h3⟩
/-- how the number of heaps goes down -/
theorem comps_snoc {l : Nat → Nat} (h : IsLab n R l) {a b : Nat} (ha : a < n) (hb : b < n) : comps n (R ++ [(a, b)]) + (if bC (¬ Conn R a b) = true then 1 else 0) = comps n R ∧ ∃ l', IsLab n (R ++ [(a, b)]) l' := by
  have i1 := h.idem ha
  have i2 := h.idem hb
  have la := h.1 a ha
  have lb := h.1 b hb
  by_cases q : l a = l b
  · have hz : ¬ bC (¬ Conn R a b) = true := fun z => (bC_t.mp z) ((h.conn ha hb).mpr q)
    rw [if_neg hz, ← comps_of h, ← comps_of (h.same q)]
    exact ⟨rfl, _, h.same q⟩
  · have hz : bC (¬ Conn R a b) = true := bC_t.mpr (fun z => q ((h.conn ha hb).mp z))
    rw [if_pos hz]
    obtain ⟨M, hMe⟩ : ∃ M, M = max (l a) (l b) := ⟨_, rfl⟩
    obtain ⟨m, hme⟩ : ∃ m, m = min (l a) (l b) := ⟨_, rfl⟩
    have hab : (l a = M ∧ l b = m) ∨ (l a = m ∧ l b = M) := by omega
    have hml : m < M := by omega
    have uM : l M = M := by rcases hab with ⟨z, -⟩ | ⟨-, z⟩ <;> rw [← z] <;> assumption
    have um : l m = m := by rcases hab with ⟨-, z⟩ | ⟨z, -⟩ <;> rw [← z] <;> assumption
    have hj := h.join (l' := fun k => if l k = M then m else l k) ha hb hab hml (fun _ => rfl)
    have hr := roots_join (l := l) (l' := fun k => if l k = M then m else l k) uM um hml (fun _ => rfl) n
    rw [if_pos (by omega)] at hr
    rw [← comps_of h, ← comps_of hj]
    exact ⟨hr, _, hj⟩
end
