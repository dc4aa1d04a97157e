/-! states that are the same -/
noncomputable def e_int (a b : Int) : Bool := match a, b with
  | .ofNat x, .ofNat y => Nat.beq x y
  | .negSucc x, .negSucc y => Nat.beq x y
  | _, _ => false
theorem e_int_ok {a b : Int} (h : e_int a b = true) : a = b := by
  cases a <;> cases b <;> first | (cases h; done) | (rw [xb_eq.mp h])
noncomputable def e_v : XV → XV → Bool
  | .inl a, .inl b => Nat.beq a b
  | .inr (.inl a), .inr (.inl b) => Nat.beq a b
  | .inr (.inr (.inl a)), .inr (.inr (.inl b)) => Nat.beq a b
  | .inr (.inr (.inr (.inl a))), .inr (.inr (.inr (.inl b))) => cond (Nat.beq a.1 b.1) (e_int a.2 b.2) false
  | .inr (.inr (.inr (.inr (.inl a)))), .inr (.inr (.inr (.inr (.inl b)))) => cond (Nat.beq a.1 b.1) (e_int a.2 b.2) false
  | .inr (.inr (.inr (.inr (.inr (.inl a))))), .inr (.inr (.inr (.inr (.inr (.inl b))))) => cond (Nat.beq a.1 b.1) (Nat.beq a.2 b.2) false
  | .inr (.inr (.inr (.inr (.inr (.inr a))))), .inr (.inr (.inr (.inr (.inr (.inr b))))) => cond (Nat.beq a.1 b.1) (Nat.beq a.2 b.2) false
  | _, _ => false
theorem e_c2 {b c : Bool} (h : cond b c false = true) : b = true ∧ c = true := by
  cases b with
  | true => exact ⟨rfl, h⟩
  | false => cases h
theorem e_v_ok {u v : XV} (h : e_v u v = true) : u = v := by
  rcases u with n | n | n | n | n | n | n <;> rcases v with m | m | m | m | m | m | m <;> first
    | (cases h; done)
    | (have := xb_eq.mp h; subst this; rfl)
    | (obtain ⟨h1, h2⟩ := e_c2 h
       obtain ⟨n1, n2⟩ := n
       obtain ⟨m1, m2⟩ := m
       have q1 : n1 = m1 := xb_eq.mp h1
       have q2 : n2 = m2 := by first | exact e_int_ok h2 | exact xb_eq.mp h2
       rw [q1, q2])
noncomputable def e_l {α : Type} (f : α → α → Bool) : List α → List α → Bool
  | [], [] => true
  | a :: r, b :: r' => cond (f a b) (e_l f r r') false
  | _, _ => false
theorem e_l_ok {α : Type} {f : α → α → Bool} (hf : ∀ a b, f a b = true → a = b) : ∀ {l l' : List α}, e_l f l l' = true → l = l'
  | [], [], _ => rfl
  | [], _ :: _, h => by cases h
  | _ :: _, [], h => by cases h
  | a :: r, b :: r', h => by
    obtain ⟨h1, h2⟩ := e_c2 h
    rw [hf _ _ h1, e_l_ok hf h2]
noncomputable def e_q (a b : Nat × XV) : Bool := cond (Nat.beq a.1 b.1) (e_v a.2 b.2) false
theorem e_q_ok (a b : Nat × XV) (h : e_q a b = true) : a = b := by
  obtain ⟨h1, h2⟩ := e_c2 h
  obtain ⟨a1, a2⟩ := a
  obtain ⟨b1, b2⟩ := b
  have q1 : a1 = b1 := xb_eq.mp h1
  have q2 : a2 = b2 := e_v_ok h2
  rw [q1, q2]
noncomputable def e_cell : XC → XC → Bool
  | none, none => true
  | some (.inl a), some (.inl b) => cond (Nat.beq a.1 b.1) (e_l e_v a.2 b.2) false
  | some (.inr a), some (.inr b) => cond (Nat.beq a.1 b.1) (cond (Nat.beq a.2.1 b.2.1) (cond (Nat.beq a.2.2.1 b.2.2.1) (e_l e_q a.2.2.2 b.2.2.2) false) false) false
  | _, _ => false
theorem e_cell_ok {a b : XC} (h : e_cell a b = true) : a = b := by
  rcases a with _ | (a | a) <;> rcases b with _ | (b | b) <;> first
    | (cases h; done)
    | rfl
    | (obtain ⟨h1, h2⟩ := e_c2 h
       obtain ⟨a1, a2⟩ := a
       obtain ⟨b1, b2⟩ := b
       have q1 : a1 = b1 := xb_eq.mp h1
       have q2 : a2 = b2 := e_l_ok (fun _ _ => e_v_ok) h2
       rw [q1, q2])
    | (obtain ⟨h1, h2⟩ := e_c2 h
       obtain ⟨h3, h4⟩ := e_c2 h2
       obtain ⟨h5, h6⟩ := e_c2 h4
       obtain ⟨a1, a2, a3, a4⟩ := a
       obtain ⟨b1, b2, b3, b4⟩ := b
       have q1 : a1 = b1 := xb_eq.mp h1
       have q3 : a2 = b2 := xb_eq.mp h3
       have q5 : a3 = b3 := xb_eq.mp h5
       have q6 : a4 = b4 := e_l_ok e_q_ok h6
       rw [q1, q3, q5, q6])
noncomputable def e_t : (d : Nat) → XT d → XT d → Bool
  | 0, a, b => e_cell a b
  | d + 1, a, b => cond (e_t d a.1 b.1) (e_t d a.2 b.2) false
theorem e_t_ok : ∀ {d : Nat} {a b : XT d}, e_t d a b = true → a = b
  | 0, _, _, h => e_cell_ok h
  | d + 1, a, b, h => by
    obtain ⟨h1, h2⟩ := e_c2 h
    exact Prod.ext (e_t_ok h1) (e_t_ok h2)
noncomputable def e_h (a b : XH) : Bool := cond (Nat.beq a.1 b.1) (cond (Nat.beq a.2.1 b.2.1) (e_t 11 a.2.2 b.2.2) false) false
theorem e_h_ok {a b : XH} (h : e_h a b = true) : a = b := by
  obtain ⟨h1, h2⟩ := e_c2 h
  obtain ⟨h3, h4⟩ := e_c2 h2
  exact Prod.ext (xb_eq.mp h1) (Prod.ext (xb_eq.mp h3) (e_t_ok h4))
noncomputable def e_o : Option XV → Option XV → Bool
  | none, none => true
  | some a, some b => e_v a b
  | _, _ => false
theorem e_o_ok {a b : Option XV} (h : e_o a b = true) : a = b := by
  rcases a with _ | a <;> rcases b with _ | b <;> first | (cases h; done) | rfl | rw [e_v_ok h]
noncomputable def e_r : Option (Option XV × XH) → (Option XV × XH) → Bool
  | some a, b => cond (e_o a.1 b.1) (e_h a.2 b.2) false
  | none, _ => false
theorem e_r_ok {a : Option (Option XV × XH)} {b : Option XV × XH} (h : e_r a b = true) : a = some b := by
  rcases a with _ | a
  · cases h
  · obtain ⟨h1, h2⟩ := e_c2 h
    exact congrArg some (Prod.ext (e_o_ok h1) (e_h_ok h2))
noncomputable def e_s : Option (Nat × (XL × (List XV × XH))) → (Nat × (XL × (List XV × XH))) → Bool
  | some a, b => cond (Nat.beq a.1 b.1) (cond (e_l e_o a.2.1 b.2.1) (cond (e_l e_v a.2.2.1 b.2.2.1) (e_h a.2.2.2 b.2.2.2) false) false) false
  | none, _ => false
theorem e_s_ok {a : Option (Nat × (XL × (List XV × XH)))} {b : Nat × (XL × (List XV × XH))} (h : e_s a b = true) : a = some b := by
  rcases a with _ | a
  · cases h
  · obtain ⟨h1, h2⟩ := e_c2 h
    obtain ⟨h3, h4⟩ := e_c2 h2
    obtain ⟨h5, h6⟩ := e_c2 h4
    exact congrArg some (Prod.ext (xb_eq.mp h1) (Prod.ext (e_l_ok (fun _ _ => e_o_ok) h3) (Prod.ext (e_l_ok (fun _ _ => e_v_ok) h5) (e_h_ok h6))))
