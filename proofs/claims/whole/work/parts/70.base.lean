/-! what holds of plain functions: words -/
def ok {α : Type} (x : Option α) (P : α → Prop) : Prop := ∃ a, x = some a ∧ P a
theorem ok_some {α : Type} {a : α} {P : α → Prop} (h : P a) : ok (some a) P := ⟨a, rfl, h⟩
theorem ok_of {α : Type} {x : Option α} {a : α} {P : α → Prop} (e : x = some a) (h : P a) : ok x P := ⟨a, e, h⟩
theorem ok_bind {α β : Type} {x : Option α} {f : α → Option β} {Q : α → Prop} {P : β → Prop} (h : ok x Q) (k : ∀ a, Q a → ok (f a) P) : ok (x.bind f) P := by
  obtain ⟨a, rfl, q⟩ := h
  exact k a q
theorem ok_be {α β : Type} {x : Option α} {a : α} {f : α → Option β} {P : β → Prop} (h : x = some a) (k : ok (f a) P) : ok (x.bind f) P := by
  rw [h]
  exact k
theorem ok_gd {α : Type} {b : Bool} {x : Option α} {P : α → Prop} (hb : b = true) (h : ok x P) : ok (ia_gd b x) P := by
  rw [hb]
  exact h
theorem ok_ite {α : Type} {c : Prop} [Decidable c] {x y : Option α} {P : α → Prop} (h1 : c → ok x P) (h2 : ¬ c → ok y P) : ok (if c then x else y) P := by
  by_cases q : c
  · rw [if_pos q]; exact h1 q
  · rw [if_neg q]; exact h2 q
theorem ok_mono {α : Type} {x : Option α} {P Q : α → Prop} (h : ok x P) (k : ∀ a, P a → Q a) : ok x Q := by
  obtain ⟨a, e, p⟩ := h
  exact ⟨a, e, k a p⟩
theorem ok_eq {α : Type} {x : Option α} {a : α} (h : ok x fun b => b = a) : x = some a := by
  obtain ⟨b, e, p⟩ := h
  rw [e, p]
theorem gd_t {α : Type} {b : Bool} {x : Option α} (hb : b = true) : ia_gd b x = x := by rw [hb]; rfl
theorem bd_t {α β : Type} {x : Option α} {a : α} {f : α → Option β} (h : x = some a) : x.bind f = f a := by rw [h]; rfl
theorem ibt {a : Int} {n : Nat} (h1 : 0 ≤ a) (h2 : a < n) : pib a n = true := by
  unfold pib
  rw [decide_eq_true h1, decide_eq_true h2]
  rfl
theorem nzt {a : Int} (h : a ≠ 0) : pnz a = true := by
  unfold pnz
  rw [decide_eq_false h]
  rfl
theorem z1t {a : Int} (h : a = 0 ∨ a = 1) : pz1 a = true := by
  rcases h with rfl | rfl <;> rfl
theorem cbt {s d n : Int} {na nb : Nat} (h1 : 0 ≤ s) (h2 : 0 ≤ d) (h3 : 0 ≤ n) (h4 : s + n ≤ na) (h5 : d + n ≤ nb) : pcb s d n na nb = true := by
  unfold pcb
  rw [decide_eq_true h1, decide_eq_true h2, decide_eq_true h3, decide_eq_true h4, decide_eq_true h5]
  rfl
theorem z1b (c : Prop) [Decidable c] : pz1 (if c then 1 else 0) = true := by
  split <;> rfl
/-! the heap's views behind writes -/
theorem pi_wI {h : pH} {a i : Nat} {x : Int} {b j : Nat} : pi (pwI h a i x) b j = if b = a ∧ j = i then x else pi h b j := rfl
theorem pi_wIs {h : pH} {a i : Nat} {x : Int} : pi (pwI h a i x) a i = x := by rw [pi_wI, if_pos ⟨rfl, rfl⟩]
theorem pi_wIa {h : pH} {a i : Nat} {x : Int} {b j : Nat} (hb : b ≠ a) : pi (pwI h a i x) b j = pi h b j := by rw [pi_wI, if_neg (fun q => hb q.1)]
theorem pi_wIi {h : pH} {a i : Nat} {x : Int} {b j : Nat} (hb : j ≠ i) : pi (pwI h a i x) b j = pi h b j := by rw [pi_wI, if_neg (fun q => hb q.2)]
theorem pi_wL {h : pH} {a i : Nat} {x : Int64} {b j : Nat} : pi (pwL h a i x) b j = pi h b j := rfl
theorem pi_wR {h : pH} {a i x b j : Nat} : pi (pwR h a i x) b j = pi h b j := rfl
theorem pl_wI {h : pH} {a i : Nat} {x : Int} {b j : Nat} : pl (pwI h a i x) b j = pl h b j := rfl
theorem pl_wR {h : pH} {a i x b j : Nat} : pl (pwR h a i x) b j = pl h b j := rfl
theorem pl_wL {h : pH} {a i : Nat} {x : Int64} {b j : Nat} : pl (pwL h a i x) b j = if b = a ∧ j = i then x else pl h b j := rfl
theorem pl_wLs {h : pH} {a i : Nat} {x : Int64} : pl (pwL h a i x) a i = x := by rw [pl_wL, if_pos ⟨rfl, rfl⟩]
theorem pl_wLa {h : pH} {a i : Nat} {x : Int64} {b j : Nat} (hb : b ≠ a) : pl (pwL h a i x) b j = pl h b j := by rw [pl_wL, if_neg (fun q => hb q.1)]
theorem pl_wLi {h : pH} {a i : Nat} {x : Int64} {b j : Nat} (hb : j ≠ i) : pl (pwL h a i x) b j = pl h b j := by rw [pl_wL, if_neg (fun q => hb q.2)]
theorem pr_wI {h : pH} {a i : Nat} {x : Int} {b j : Nat} : pr (pwI h a i x) b j = pr h b j := rfl
theorem pr_wL {h : pH} {a i : Nat} {x : Int64} {b j : Nat} : pr (pwL h a i x) b j = pr h b j := rfl
theorem pr_wR {h : pH} {a i x b j : Nat} : pr (pwR h a i x) b j = if b = a ∧ j = i then x else pr h b j := rfl
theorem pr_wRs {h : pH} {a i x : Nat} : pr (pwR h a i x) a i = x := by rw [pr_wR, if_pos ⟨rfl, rfl⟩]
theorem pr_wRa {h : pH} {a i x b j : Nat} (hb : b ≠ a) : pr (pwR h a i x) b j = pr h b j := by rw [pr_wR, if_neg (fun q => hb q.1)]
theorem pr_wRi {h : pH} {a i x b j : Nat} (hb : j ≠ i) : pr (pwR h a i x) b j = pr h b j := by rw [pr_wR, if_neg (fun q => hb q.2)]
theorem pi_cpI {h : pH} {a b sp dp n c j : Nat} : pi (pcpI h a b sp dp n) c j = if c = b then (if dp ≤ j ∧ j < dp + n then pi h a (sp + (j - dp)) else pi h b j) else pi h c j := rfl
theorem pi_cpIa {h : pH} {a b sp dp n c j : Nat} (hc : c ≠ b) : pi (pcpI h a b sp dp n) c j = pi h c j := by rw [pi_cpI, if_neg hc]
theorem pi_cp0 {h : pH} {a b n j : Nat} (hj : j < n) : pi (pcpI h a b 0 0 n) b j = pi h a j := by
  rw [pi_cpI, if_pos rfl, if_pos ⟨Nat.zero_le _, by omega⟩, Nat.zero_add, Nat.sub_zero]
theorem pl_cpI {h : pH} {a b sp dp n c j : Nat} : pl (pcpI h a b sp dp n) c j = pl h c j := rfl
theorem pr_cpI {h : pH} {a b sp dp n c j : Nat} : pr (pcpI h a b sp dp n) c j = pr h c j := rfl
theorem pl_cpL {h : pH} {a b sp dp n c j : Nat} : pl (pcpL h a b sp dp n) c j = if c = b then (if dp ≤ j ∧ j < dp + n then pl h a (sp + (j - dp)) else pl h b j) else pl h c j := rfl
theorem pl_cpLa {h : pH} {a b sp dp n c j : Nat} (hc : c ≠ b) : pl (pcpL h a b sp dp n) c j = pl h c j := by rw [pl_cpL, if_neg hc]
theorem pl_cp0 {h : pH} {a b n j : Nat} (hj : j < n) : pl (pcpL h a b 0 0 n) b j = pl h a j := by
  rw [pl_cpL, if_pos rfl, if_pos ⟨Nat.zero_le _, by omega⟩, Nat.zero_add, Nat.sub_zero]
theorem pi_cpL {h : pH} {a b sp dp n c j : Nat} : pi (pcpL h a b sp dp n) c j = pi h c j := rfl
theorem pr_cpL {h : pH} {a b sp dp n c j : Nat} : pr (pcpL h a b sp dp n) c j = pr h c j := rfl
/-- nothing changes but at F -/
def fr (F : Nat → Prop) (h h' : pH) : Prop := ∀ a, ¬ F a → ∀ k, pi h' a k = pi h a k ∧ pl h' a k = pl h a k ∧ pr h' a k = pr h a k
theorem fr_refl {F : Nat → Prop} {h : pH} : fr F h h := fun _ _ _ => ⟨rfl, rfl, rfl⟩
theorem fr_trans {F : Nat → Prop} {h h1 h2 : pH} (p : fr F h h1) (q : fr F h1 h2) : fr F h h2 := fun a ha k =>
  ⟨(q a ha k).1.trans (p a ha k).1, (q a ha k).2.1.trans (p a ha k).2.1, (q a ha k).2.2.trans (p a ha k).2.2⟩
theorem fr_mono {F G : Nat → Prop} {h h1 : pH} (p : fr F h h1) (q : ∀ a, F a → G a) : fr G h h1 := fun a ha k => p a (fun z => ha (q a z)) k
theorem fr_wI {F : Nat → Prop} {h h1 : pH} {a i : Nat} {x : Int} (p : fr F h h1) (q : F a) : fr F h (pwI h1 a i x) := fun b hb k => by
  have e : b ≠ a := fun e => hb (by rw [e]; exact q)
  exact ⟨(pi_wIa e).trans (p b hb k).1, (p b hb k).2.1, (p b hb k).2.2⟩
theorem fr_wL {F : Nat → Prop} {h h1 : pH} {a i : Nat} {x : Int64} (p : fr F h h1) (q : F a) : fr F h (pwL h1 a i x) := fun b hb k => by
  have e : b ≠ a := fun e => hb (by rw [e]; exact q)
  exact ⟨(p b hb k).1, (pl_wLa e).trans (p b hb k).2.1, (p b hb k).2.2⟩
theorem fr_wR {F : Nat → Prop} {h h1 : pH} {a i x : Nat} (p : fr F h h1) (q : F a) : fr F h (pwR h1 a i x) := fun b hb k => by
  have e : b ≠ a := fun e => hb (by rw [e]; exact q)
  exact ⟨(p b hb k).1, (p b hb k).2.1, (pr_wRa e).trans (p b hb k).2.2⟩
theorem fr_cpI {F : Nat → Prop} {h h1 : pH} {a b s d n : Nat} (p : fr F h h1) (q : F b) : fr F h (pcpI h1 a b s d n) := fun c hc k => by
  have e : c ≠ b := fun e => hc (by rw [e]; exact q)
  exact ⟨(pi_cpIa e).trans (p c hc k).1, (p c hc k).2.1, (p c hc k).2.2⟩
theorem fr_cpL {F : Nat → Prop} {h h1 : pH} {a b s d n : Nat} (p : fr F h h1) (q : F b) : fr F h (pcpL h1 a b s d n) := fun c hc k => by
  have e : c ≠ b := fun e => hc (by rw [e]; exact q)
  exact ⟨(p c hc k).1, (pl_cpLa e).trans (p c hc k).2.1, (p c hc k).2.2⟩
theorem fr_i {F : Nat → Prop} {h h1 : pH} (p : fr F h h1) {a k : Nat} (q : ¬ F a) : pi h1 a k = pi h a k := (p a q k).1
theorem fr_l {F : Nat → Prop} {h h1 : pH} (p : fr F h h1) {a k : Nat} (q : ¬ F a) : pl h1 a k = pl h a k := (p a q k).2.1
theorem fr_r {F : Nat → Prop} {h h1 : pH} (p : fr F h h1) {a k : Nat} (q : ¬ F a) : pr h1 a k = pr h a k := (p a q k).2.2
/-! numbers -/
theorem tn_l {a : Nat} {b : Int} (hb : 0 ≤ b) : ((a : Int) + b).toNat = a + b.toNat := by omega
theorem tn_r {a : Nat} {b : Int} (hb : 0 ≤ b) : (b + (a : Int)).toNat = b.toNat + a := by omega
theorem fu_big {n : Nat} (h : n < 1000000) : n < fu_ := by unfold fu_; omega
theorem td_p {a b : Int} (h : 0 ≤ a) : Int.tdiv a b = a / b := Int.tdiv_eq_ediv_of_nonneg h
theorem tm_p {a b : Int} (h : 0 ≤ a) : Int.tmod a b = a % b := Int.tmod_eq_emod_of_nonneg h
