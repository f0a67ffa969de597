/-! plans: the model tries -/
def PY (to : Nat → Int32) (o rk : Nat) (S : Nat → Int) (sa rows : Nat → Int64) : Prop := o ≤ 3 ∧ ZT o to ∧ rk ≤ o ∧ (rk = 3 → DT (Rw false to 0) (Rw false to 1) (Rw false to 2) ≠ 0) ∧ (∀ k, k < 3 → o ≤ k → S k = 0) ∧ rpo o sa S ∧ rm9 rows (RM (Rw false to) o)
theorem tf_44 {o : Nat} (ho : o ≤ 3) {to : Nat → Int32} (hz : ZT o to) {b : Nat} (hb : b ≤ 3) (t li : Int32) (tr sa en' wa rows : Nat → Int64) (inp : Nat → Int32) : ∀ (m k f : Nat) (go nx : Nat → Int64) (v : Nat → Int), k + m = b → m < f → rpo o go v → ∃ go2 nx2, F_X5_tryFirst_44 f (nI b) t (nI k) (nI o) li tr sa inp nx to go en' wa rows = F_X5_tryFirst_44 1 (nI b) t (nI b) (nI o) li tr sa inp nx2 to go2 en' wa rows ∧ rpo o go2 (gn false to m v) := by
  intro m
  induction m with
  | zero =>
    intro k f go nx v hk hf hv
    obtain ⟨f, rfl⟩ : ∃ q, f = q + 1 := ⟨f - 1, by omega⟩
    have e : k = b := by omega
    subst e
    refine ⟨go, nx, ?_, hv⟩
    rw [F_X5_tryFirst_44, if_pos (nI_le (Nat.le_refl _) (by omega)), show (1 : Nat) = 0 + 1 from rfl, F_X5_tryFirst_44, if_pos (nI_le (Nat.le_refl _) (by omega))]
  | succ m ih =>
    intro k f go nx v hk hf hv
    obtain ⟨f, rfl⟩ : ∃ q, f = q + 1 := ⟨f - 1, by omega⟩
    obtain ⟨nx1, go1', e1, h1⟩ := mgo0 ho hz nx hv
    obtain ⟨go2, nx2, e2, h2⟩ := ih (k + 1) f go1' nx1 _ (by omega) (by omega) h1
    refine ⟨go2, nx2, ?_, ?_⟩
    · rw [F_X5_tryFirst_44, if_neg (nI_ge (by omega) (by omega)), e1]
      exact b2 rfl (by rw [nI_1]; exact e2)
    · rw [gn_succ]; exact h2
theorem tf_12 {o : Nat} (ho : o ≤ 3) (b t li : Int32) (tr sa nx en' wa rows : Nat → Int64) (inp to : Nat → Int32) : ∀ (m k f : Nat) (go : Nat → Int64), k + m = o → m < f → (∀ j, j < k → go j = tr j) → ∃ go2, F_X5_tryFirst_12 f b t (nI k) (nI o) li tr sa inp nx to go en' wa rows = F_X5_tryFirst_44 3000 b t 0 (nI o) li tr sa inp nx to go2 en' wa rows ∧ ∀ j, j < o → go2 j = tr j := by
  intro m
  induction m with
  | zero =>
    intro k f go hk hf h
    obtain ⟨f, rfl⟩ : ∃ q, f = q + 1 := ⟨f - 1, by omega⟩
    exact ⟨go, by rw [F_X5_tryFirst_12, if_pos (nI_le (by omega) (by omega))], fun j hj => h j (by omega)⟩
  | succ m ih =>
    intro k f go hk hf h
    obtain ⟨f, rfl⟩ : ∃ q, f = q + 1 := ⟨f - 1, by omega⟩
    obtain ⟨go2, e, h2⟩ := ih (k + 1) f (vp_updL go k (tr k)) (by omega) (by omega) (fun j hj => by
      show (if j = k then _ else go j) = _
      by_cases c : j = k
      · rw [if_pos c, c]
      · rw [if_neg c]; exact h j (by omega))
    refine ⟨go2, ?_, h2⟩
    rw [F_X5_tryFirst_12, if_neg (nI_ge (by omega) (by omega)), if_neg (in3 (by omega)), if_neg (in3 (by omega)), clk (by omega), nI_1]
    exact e
theorem rest_o {o : Nat} (ho : o ≤ 3) {to : Nat → Int32} (hz : ZT o to) {S : Nat → Int} (hSz : ∀ k, k < 3 → o ≤ k → S k = 0) {n : Nat} {v : Nat → Int} : (∀ j, j < o → es to S v n j = 0) ↔ Rest to S n v := by
  constructor
  · intro h k hk
    by_cases d : k < o
    · rw [← es_end to S v n k hk]; exact h k d
    · exact yv_z hz hSz n v n k hk (by omega)
  · intro h j hj
    rw [es_end to S v n j (by omega)]; exact h j (by omega)
theorem es_bd {o : Nat} (ho : o ≤ 3) {to : Nat → Int32} (hc : CB to) {S : Nat → Int} (hS : Bd 1000000 S) {n : Nat} (hn : n ≤ 6) {v : Nat → Int} (hv : ∀ i, i < n → -5 ≤ v i ∧ v i ≤ 5) : ∀ k, k < o → -9000000000000000000 ≤ es to S v n k ∧ es to S v n k ≤ 9000000000000000000 := by
  intro k hk
  rw [es_end to S v n k (by omega)]
  have := yv_bd hc hS hn n hn hv k (by omega)
  omega
theorem rest_cg {to : Nat → Int32} {S : Nat → Int} {n : Nat} {v v' : Nat → Int} (h : ∀ i, i < n → v i = v' i) (hr : Rest to S n v) : Rest to S n v' := fun k hk => by
  rw [← yv_cg to S n n h k]; exact hr k hk
theorem tf_ev {to : Nat → Int32} {B : Nat → Nat → Int} {o rk n t b : Nat} {S : Nat → Int} {sa rows : Nat → Int64} (hX : PX to B rk n t b S) (hY : PY to o rk S sa rows) {L : Nat} (hL : L ≤ 5) {u : Nat → Int} (hu : ∀ i, i < t → -(L : Int) ≤ u i ∧ u i ≤ L) {inp : Nat → Int32} (hi : ∀ i, i < t → inp i = Int32.ofInt (u i)) (tr nx go en' wa : Nat → Int64) : ∃ r tr2 inp2 nx2 go2 en2 wa2, F_X5_tryFirst (nI n) (nI b) (nI o) (nI L) tr sa inp nx to go en' wa rows = some (r, tr2, inp2, nx2, go2, en2, wa2) ∧ ((r = 1 ∧ ∃ q, Good to S L n t u q ∧ ∀ i, i < n → inp2 i = Int32.ofInt (mx u q t i)) ∨ (r = 0 ∧ (¬ ∃ q, Good to S L n t u q) ∧ ∀ i, i < t → inp2 i = inp i)) := by
  obtain ⟨hB, en0, eb, h6, ht3, hS, hc, hqb, d1, d2⟩ := hX
  obtain ⟨ho, hz, hro, h3, hSz, hsa, hrows⟩ := hY
  have hb3 : b ≤ 3 := by have := hB.1; omega
  have esub : nI n - nI b = nI t := by rw [nIs (by omega)]; congr 1; omega
  obtain ⟨tr1, nx1, e1, h1⟩ := gi_ev ho hz hsa (T := t) (by omega) (inp := inp) (u := u) (fun i hit => ⟨hi i hit, by have := hu i hit; omega⟩) tr nx
  obtain ⟨go1', e2, h2⟩ := tf_12 ho (nI b) (nI t) (nI L) tr1 sa nx1 en' wa rows inp to o 0 3000 go (by omega) (by omega) (fun j hj => by omega)
  have hgo1 : rpo o go1' (es to S u t) := fun k hk => by rw [h2 k hk]; exact h1 k hk
  obtain ⟨go2, nx2, e3, hgo2⟩ := tf_44 ho hz hb3 (nI t) (nI L) tr1 sa en' wa rows inp b 0 3000 go1' nx1 _ (by omega) (by omega) hgo1
  have hgoy : rpo o go2 (yv to S n u t) := hgo2.cg (fun k hk => by rw [es_yv to S u t b k (by omega), ← en0])
  have efirst : F_X5_tryFirst (nI n) (nI b) (nI o) (nI L) tr sa inp nx to go en' wa rows = F_X5_tryFirst_44 1 (nI b) (nI t) (nI b) (nI o) (nI L) tr1 sa inp nx2 to go2 en' wa rows := by
    unfold F_X5_tryFirst
    rw [esub]
    refine b2 e1 ?_
    rw [show nI 0 = (0 : Int32) from rfl] at e2 e3
    rw [e2, e3]
  rw [efirst, show (1 : Nat) = 0 + 1 from rfl, F_X5_tryFirst_44, if_pos (nI_le (Nat.le_refl _) (by omega))]
  have hu5 : ∀ i, i < t → -5 ≤ u i ∧ u i ≤ 5 := fun i hit => by have := hu i hit; omega
  by_cases hb0 : b = 0
  · subst hb0
    have etn : t = n := by omega
    subst etn
    have hgr : ∀ q, Good to S L t t u q ↔ Rest to S t u := fun q => ⟨fun h => rest_cg (fun i hit => mx_lt hit) h.1, fun h => ⟨rest_cg (fun i hit => (mx_lt hit).symm) h, fun i a c => by omega⟩⟩
    rw [if_pos (show nI 0 = 0 from rfl)]
    rcases ir_ev ho h1 (es_bd ho hc hS h6 hu5) with ⟨e, h⟩ | ⟨e, h⟩
    · refine ⟨1, tr1, inp, nx2, go2, en', wa, b1 e rfl, Or.inl ⟨rfl, fun _ => 0, (hgr _).mpr ((rest_o ho hz hSz).mp h), fun i hit => by rw [mx_lt hit]; exact hi i hit⟩⟩
    · refine ⟨0, tr1, inp, nx2, go2, en', wa, b1 e rfl, Or.inr ⟨rfl, ?_, fun _ _ => rfl⟩⟩
      rintro ⟨q, hq⟩
      exact h ((rest_o ho hz hSz).mpr ((hgr q).mp hq))
  · have hb1 : 1 ≤ b := by omega
    rw [if_neg (nI_nz hb1 (by omega))]
    have r0 := R0_bd hz.1 false
    have r1 := R1_bd hz.1 false
    have r2 := R2_bd hz.1 false
    obtain ⟨set, hset, hsuc⟩ := suc_ex ho hz hB hro h3 hb1 (show b ≤ rk by omega)
    obtain ⟨sset, e4', w4, k2, hD, hP, hE, hW, e5⟩ := fl_2 ho hb1 (show b ≤ o by omega) r0 r1 r2 hrows hgoy (nI t) (nI L) tr1 sa nx2 inp to 8 0 3000 en' wa (by omega) (by omega) ⟨set, by omega, hset, hsuc⟩
    obtain ⟨hsq, dd1, dd2⟩ := EM_sq r0 r1 r2 hb1 hb3 ho hP
    have hyb : Bd 46656233280 (yv to S n u t) := (yv_bd hc hS h6 t (by omega) hu5).mono (by omega)
    have hwb : ∀ j, -300000000000000 ≤ cB (EM (Rw false to) b (Pk o b sset).2 b) j (WV (yv to S n u t) (Pk o b sset).2 b) ∧ cB (EM (Rw false to) b (Pk o b sset).2 b) j (WV (yv to S n u t) (Pk o b sset).2 b) ≤ 300000000000000 := by
      intro j
      have hw : Bd 46656233280 (WV (yv to S n u t) (Pk o b sset).2 b) := by
        intro k hk
        unfold WV
        by_cases c : k < b
        · rw [if_pos c]
          have := hyb ((Pk o b sset).2 k) (by have := hP k c; omega)
          omega
        · rw [if_neg c]; omega
      have := dot_bd (hsq j) hw
      unfold cB
      omega
    obtain ⟨inp2, fr, hh⟩ := fl_35 (o := o) (t := t) hb3 (by omega) hL hD dd1 dd2 hwb hE hW k2 go2 rows tr1 sa nx2 to b 0 3000 inp (by omega) (by omega)
    have elast : F_X5_findLast (nI t) (nI b) (nI o) (nI L) en' wa go2 rows tr1 sa inp nx2 to = F_X5_findLast_35 k2 3000 (nI t) (nI b) (Int64.ofInt (DT (EM (Rw false to) b (Pk o b sset).2 b 0) (EM (Rw false to) b (Pk o b sset).2 b 1) (EM (Rw false to) b (Pk o b sset).2 b 2))) (nI 0) (nI o) (nI L) e4' w4 go2 rows tr1 sa inp nx2 to := e5
    rcases hh with ⟨q, e6, hq⟩ | ⟨e6, j, hj, hno⟩
    · have hmx : ∀ i, i < n → inp2 i = Int32.ofInt (mx u (fun i => q (i - t)) t i) := by
        intro i hin
        by_cases c : i < t
        · rw [mx_lt c, fr i (by omega)]; exact hi i c
        · rw [mx_ge (by omega)]
          have := (hq (i - t) (by omega) (by omega)).2.2.2
          rw [show t + (i - t) = i by omega] at this
          exact this
      have hrng : ∀ i, t ≤ i → i < n → -(L : Int) ≤ q (i - t) ∧ q (i - t) ≤ L := fun i a c => by
        have := hq (i - t) (by omega) (by omega)
        exact ⟨this.2.1, this.2.2.1⟩
      have hmb : ∀ i, i < n → -5 ≤ mx u (fun i => q (i - t)) t i ∧ mx u (fun i => q (i - t)) t i ≤ 5 := by
        intro i hin
        by_cases c : i < t
        · rw [mx_lt c]; exact hu5 i c
        · rw [mx_ge (by omega)]
          have := hrng i (by omega) hin
          omega
      obtain ⟨tr7, nx7, e7, h7⟩ := gi_ev ho hz hsa (T := n) h6 (inp := inp2) (u := mx u (fun i => q (i - t)) t) (fun i hin => ⟨hmx i hin, hmb i hin⟩) tr1 nx2
      rw [← en0] at e6
      rcases ir_ev ho h7 (es_bd ho hc hS h6 hmb) with ⟨e8, h8⟩ | ⟨e8, h8⟩
      · refine ⟨1, tr7, inp2, nx7, go2, e4', w4, ?_, Or.inl ⟨rfl, fun i => q (i - t), ⟨(rest_o ho hz hSz).mp h8, hrng⟩, hmx⟩⟩
        refine b6 ?_ (a0 := 1) (a1 := e4') (a2 := w4) (a3 := tr7) (a4 := inp2) (a5 := nx7) rfl
        rw [elast, e6]
        exact b2 e7 (b1 e8 rfl)
      · refine ⟨0, tr7, inp2, nx7, go2, e4', w4, ?_, Or.inr ⟨rfl, ?_, fun i hit => fr i (by omega)⟩⟩
        · refine b6 ?_ (a0 := 0) (a1 := e4') (a2 := w4) (a3 := tr7) (a4 := inp2) (a5 := nx7) rfl
          rw [elast, e6]
          exact b2 e7 (b1 e8 rfl)
        · rintro ⟨q', hg, -⟩
          apply h8
          apply (rest_o ho hz hSz).mpr
          refine rest_cg (fun i hin => ?_) hg
          by_cases c : i < t
          · rw [mx_lt c, mx_lt c]
          · rw [mx_ge (by omega), mx_ge (by omega)]
            have a := asked_sol ho en0 hb1 hb3 hg hP (k := i - t) (by omega)
            rw [show t + (i - t) = i by omega, (hq (i - t) (by omega) (by omega)).1] at a
            exact (Int.eq_of_mul_eq_mul_left hD a).symm
    · refine ⟨0, tr1, inp2, nx2, go2, e4', w4, ?_, Or.inr ⟨rfl, ?_, fun i hit => fr i (by omega)⟩⟩
      · refine b6 ?_ (a0 := 0) (a1 := e4') (a2 := w4) (a3 := tr1) (a4 := inp2) (a5 := nx2) rfl
        rw [elast, e6]
      · rintro ⟨q', hg, hq'⟩
        have a := asked_sol ho en0 hb1 hb3 hg hP (k := j) hj
        have := hq' (t + j) (by omega) (by omega)
        exact hno ⟨q' (t + j), a, this.1, this.2⟩
