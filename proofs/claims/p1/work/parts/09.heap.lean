/-! the heap -/
theorem xget_same : ∀ (d : Nat) (t : XT d) (k : Nat) (c : XC), xget d (xset d t k c) k = c := by
  intro d
  induction d with
  | zero => intro t k c; rfl
  | succ d ih =>
    intro t k c
    cases h : Nat.mod k 2 with
    | zero =>
      have e1 : xset (d + 1) t k c = (xset d t.1 (Nat.div k 2) c, t.2) := by simp only [xset, h]; rfl
      rw [e1]
      simp only [xget, h]
      exact ih _ _ _
    | succ m =>
      have e1 : xset (d + 1) t k c = (t.1, xset d t.2 (Nat.div k 2) c) := by simp only [xset, h]; rfl
      rw [e1]
      simp only [xget, h]
      exact ih _ _ _
theorem xget_ne : ∀ (d : Nat) (t : XT d) (k j : Nat) (c : XC), k < 2 ^ d → j < 2 ^ d → k ≠ j → xget d (xset d t k c) j = xget d t j := by
  intro d
  induction d with
  | zero => intro t k j c hk hj h; simp at hk hj; omega
  | succ d ih =>
    intro t k j c hk hj hne
    have hk2 : k / 2 < 2 ^ d := by rw [Nat.pow_succ] at hk; omega
    have hj2 : j / 2 < 2 ^ d := by rw [Nat.pow_succ] at hj; omega
    have ek : Nat.div k 2 = k / 2 := rfl
    have ej : Nat.div j 2 = j / 2 := rfl
    have mk : Nat.mod k 2 = k % 2 := rfl
    have mj : Nat.mod j 2 = j % 2 := rfl
    cases h : Nat.mod k 2 with
    | zero =>
      have e1 : xset (d + 1) t k c = (xset d t.1 (Nat.div k 2) c, t.2) := by simp only [xset, h]; rfl
      rw [e1]
      cases h2 : Nat.mod j 2 with
      | zero =>
        simp only [xget, h2]
        exact ih _ _ _ _ hk2 hj2 (by omega)
      | succ m => simp only [xget, h2]
    | succ m =>
      have e1 : xset (d + 1) t k c = (t.1, xset d t.2 (Nat.div k 2) c) := by simp only [xset, h]; rfl
      rw [e1]
      cases h2 : Nat.mod j 2 with
      | zero => simp only [xget, h2]
      | succ m2 =>
        simp only [xget, h2]
        exact ih _ _ _ _ hk2 hj2 (by omega)
theorem xat_spec {h : XH} {a : Nat} {o : (Nat × List XV) ⊕ (Nat × (Nat × (Nat × List (Nat × XV))))} (q : xat h a = some o) : 3 ≤ a ∧ a < h.1 ∧ xget 11 h.2.2 a = some o := by
  obtain ⟨h1, h2⟩ := x_c1 q
  obtain ⟨h3, h4⟩ := x_c1 h2
  exact ⟨xb_le.mp h1, xb_lt.mp h3, h4⟩
theorem xcell_kept {tyf : Nat → FieldType} {G : XG} {U : State} {c : XC} {a : Nat} {H H1 : Heap} (h : xcell tyf G U c a H) (q : H1[a]? = H[a]?) : xcell tyf G U c a H1 := by
  rcases c with _ | (o | r)
  · trivial
  · obtain ⟨vs, h1, h2⟩ := h
    exact ⟨vs, va_at.kept h1 q, h2⟩
  · obtain ⟨cA, g, h1, h2⟩ := h
    exact ⟨cA, g, q.trans h1, h2⟩
theorem xcell_lt {tyf : Nat → FieldType} {G : XG} {U : State} {o : (Nat × List XV) ⊕ (Nat × (Nat × (Nat × List (Nat × XV))))} {a : Nat} {H : Heap} (h : xcell tyf G U (some o) a H) : a < H.size := by
  rcases o with o | r
  · obtain ⟨vs, h1, h2⟩ := h
    exact va_at.lt h1
  · obtain ⟨cA, g, h1, h2⟩ := h
    exact (Array.getElem?_eq_some_iff.mp h1).1
theorem xcell_moved {tyf : Nat → FieldType} {G : XG} {u U : State} {c : XC} {a : Nat} {H : Heap} (hvm : u.vm.Alike U.vm) (h : xcell tyf G u c a H) : xcell tyf G U c a H := by
  rcases c with _ | (o | r)
  · trivial
  · exact h
  · obtain ⟨cA, g, h1, h2, h3, h4⟩ := h
    exact ⟨cA, g, h1, arrOfT_moved hvm h2, h3.moved hvm, h4⟩
theorem xHR_moved {tyf : Nat → FieldType} {G : XG} {u U : State} {h : XH} {H : Heap} (hvm : u.vm.Alike U.vm) (q : xHR tyf G u h H) : xHR tyf G U h H :=
  ⟨q.1, q.2.1, q.2.2.1, fun k h1 h2 => xcell_moved hvm (q.2.2.2 k h1 h2)⟩
theorem xHR_put {tyf : Nat → FieldType} {G : XG} {U : State} {h : XH} {H H1 : Heap} {a : Nat} {c : XC} (q : xHR tyf G U h H) (hG : xGok G) (h0 : 4 ≤ a) (ha : a < h.1) (hz : H1.size = H.size) (ho : ∀ x : Nat, x ≠ G.1 a → H1[x]? = H[x]?) (hc : xcell tyf G U c (G.1 a) H1) : xHR tyf G U (xput h a c) H1 := by
  refine ⟨fun j => by rw [hz]; exact q.1 j, q.2.1, q.2.2.1, fun k h1 h2 => ?_⟩
  have h2 : k < h.1 := h2
  show xcell tyf G U (xget 11 (xset 11 h.2.2 a c) k) (G.1 k) H1
  have hm := q.2.2.1
  by_cases e : a = k
  · subst e
    rw [xget_same]
    exact hc
  · rw [xget_ne 11 h.2.2 a k c (by show a < 2048; omega) (by show k < 2048; omega) e]
    exact xcell_kept (q.2.2.2 k h1 h2) (ho _ (fun z => e (hG.1 a k h0 (by omega) (by omega) z.symm)))
theorem xHR_add {tyf : Nat → FieldType} {G : XG} {U : State} {h : XH} {H H1 : Heap} {sz : Nat} {c : XC} (q : xHR tyf G U h H) (hl : h.1 < 2048) (hz : H1.size = H.size + 1) (ho : ∀ x : Nat, x < H.size → H1[x]? = H[x]?) (hc : xcell tyf G U c H.size H1) : xHR tyf G U (xadd h sz c) H1 := by
  have e0 : G.1 h.1 = H.size := q.1 0
  refine ⟨fun j => ?_, by show 4 ≤ h.1 + 1; have := q.2.1; omega, by show h.1 + 1 ≤ 2048; omega, fun k h1 h2 => ?_⟩
  · show G.1 (h.1 + 1 + j) = _
    rw [hz, Nat.add_assoc, q.1 (1 + j)]
    omega
  · have h2 : k < h.1 + 1 := h2
    show xcell tyf G U (xget 11 (xset 11 h.2.2 h.1 c) k) (G.1 k) H1
    by_cases e : h.1 = k
    · subst e
      rw [xget_same, e0]
      exact hc
    · rw [xget_ne 11 h.2.2 h.1 k c (by show h.1 < 2048; omega) (by show k < 2048; omega) e]
      have hk := q.2.2.2 k h1 (by omega)
      cases hx : xget 11 h.2.2 k with
      | none => trivial
      | some o =>
        rw [hx] at hk
        exact xcell_kept hk (ho _ (xcell_lt hk))
theorem xS_put {B0 : Nat} {H0 H H1 : Heap} {locs : List Loc} {a k : Nat} (h : va_S (fun q => B0 ≤ q) H0 H locs) (z : H1.size = H.size) (oq : ∀ q : Nat, q ≠ a → H1[q]? = H[q]?) (ha : B0 ≤ a) : va_S (fun q => B0 ≤ q) H0 H1 (locs ++ [⟨a, k⟩]) := h.put z oq ha
theorem xS_add {B0 : Nat} {H0 H H1 : Heap} {locs : List Loc} (h : va_S (fun q => B0 ≤ q) H0 H locs) (z : H.size ≤ H1.size) (oq : ∀ q : Nat, q < H.size → H1[q]? = H[q]?) : va_S (fun q => B0 ≤ q) H0 H1 locs :=
  ⟨Nat.le_trans h.1 z, fun q h1 h2 => (oq q (Nat.lt_of_lt_of_le h1 h.1)).trans (h.2.1 q h1 h2), h.2.2⟩
theorem xSR_get {G : XG} : ∀ {fs : List XV} {vs : List Value} {i : Nat} {v : XV}, xSR G fs vs → xfget fs i = some v → ∃ w, vs[i]? = some w ∧ xrel G v w
  | [], _, _, _, _, h => by cases h
  | _ :: _, [], _, _, h, _ => h.elim
  | x :: r, w :: r', 0, v, h, e => by cases e; exact ⟨w, rfl, h.1⟩
  | x :: r, w :: r', i + 1, v, h, e => by
    obtain ⟨w', h1, h2⟩ := xSR_get (fs := r) (vs := r') (i := i) h.2 e
    exact ⟨w', by simpa using h1, h2⟩
theorem xSR_len {G : XG} : ∀ {fs : List XV} {vs : List Value}, xSR G fs vs → fs.length = vs.length
  | [], [], _ => rfl
  | [], _ :: _, h => h.elim
  | _ :: _, [], h => h.elim
  | _ :: r, _ :: r', h => by simp [xSR_len (fs := r) (vs := r') h.2]
theorem xSR_set {G : XG} : ∀ {fs : List XV} {vs : List Value} {i : Nat} {v : XV} {w : Value}, xSR G fs vs → xrel G v w → xSR G (xfset fs i v) (vs.set i w)
  | [], [], i, _, _, _, _ => by simp [xfset, xSR]
  | [], _ :: _, _, _, _, h, _ => h.elim
  | _ :: _, [], _, _, _, h, _ => h.elim
  | _ :: _, _ :: _, 0, _, _, h, e => ⟨e, h.2⟩
  | _ :: r, _ :: r', i + 1, _, _, h, e => ⟨h.1, xSR_set (fs := r) (vs := r') (i := i) h.2 e⟩
