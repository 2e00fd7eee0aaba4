/-! ===== followers: a row of pairs (line, follower) laid one behind the other, each once ===== -/
def addF (fl : Nat → List Nat) (q : Nat × Nat) : Nat → List Nat := if q.2 ∈ fl q.1 then fl else fun j => if j = q.1 then fl j ++ [q.2] else fl j
/-- how the programs hold them: counts, and twenty places a line -/
def FolR (cnt fls : Nat → Int32) (N : Nat) (fl : Nat → List Nat) : Prop := ∀ l, l < N → cnt l = nI (fl l).length ∧ ∀ k, k < (fl l).length → fls (20 * l + k) = nI ((fl l).getD k 0)
/-- each follower once, all of them lines -/
def FolOk (L N : Nat) (fl : Nat → List Nat) : Prop := ∀ l, l < N → (fl l).Nodup ∧ ∀ x ∈ fl l, x < L
theorem nodup_len : ∀ (xs : List Nat) (L : Nat), xs.Nodup → (∀ x ∈ xs, x < L) → xs.length ≤ L := by
  intro xs L
  induction L generalizing xs with
  | zero =>
    intro hn hx
    cases xs with
    | nil => simp
    | cons x t => exact absurd (hx x List.mem_cons_self) (Nat.not_lt_zero _)
  | succ L ih =>
    intro hn hx
    by_cases hm : L ∈ xs
    · have h1 := ih (xs.erase L) (hn.erase L) (fun x hx' => by
        have h2 := hn.mem_erase_iff.mp hx'
        have := hx x h2.2
        have := h2.1
        omega)
      rw [List.length_erase_of_mem hm] at h1
      omega
    · have := ih xs hn (fun x h => by
        have := hx x h
        have : x ≠ L := fun e => hm (e ▸ h)
        omega)
      omega
/-- a loop of N turns by an invariant that knows the turn -/
theorem q_lp_idx {σ ρ : Type} {step : σ → Option (σ ⊕ ρ)} (Inv : Nat → σ → Prop) (N : Nat) (Q : ρ → Prop) (hs : ∀ i s, i < N → Inv i s → ∃ s', step s = some (.inl s') ∧ Inv (i + 1) s') (he : ∀ s, Inv N s → ∃ r, step s = some (.inr r) ∧ Q r) : ∀ n s, Inv 0 s → N < n → ∃ r, q_lp step n s = some r ∧ Q r := by
  have key : ∀ n k s, k ≤ N → Inv k s → N - k < n → ∃ r, q_lp step n s = some r ∧ Q r := by
    intro n
    induction n with
    | zero => intro k s _ _ h; omega
    | succ n ih =>
      intro k s hk hi hn
      rcases Nat.lt_or_ge k N with h | h
      · obtain ⟨s', h1, h2⟩ := hs k s h hi
        rw [q_lp_go h1]
        exact ih (k + 1) s' (by omega) h2 (by omega)
      · have : k = N := by omega
        subst this
        obtain ⟨r, h1, h2⟩ := he s hi
        exact ⟨r, q_lp_stop h1, h2⟩
  exact fun n s hi hn => key n 0 s (Nat.zero_le _) hi (by omega)
theorem FolOk.len {L N : Nat} {fl : Nat → List Nat} (h : FolOk L N fl) {l : Nat} (hl : l < N) : (fl l).length ≤ L := nodup_len _ _ (h l hl).1 (h l hl).2
theorem FolOk.room {L N : Nat} {fl : Nat → List Nat} (h : FolOk L N fl) {l k : Nat} (hl : l < N) (hk : k < L) (hn : k ∉ fl l) : (fl l).length < L := by
  have h1 : (k :: fl l).Nodup := List.nodup_cons.mpr ⟨hn, (h l hl).1⟩
  have h2 := nodup_len (k :: fl l) L h1 (fun x hx => by
    rcases List.mem_cons.mp hx with rfl | hx
    · exact hk
    · exact (h l hl).2 x hx)
  simp only [List.length_cons] at h2
  omega
theorem FolOk.add {L N : Nat} {fl : Nat → List Nat} (h : FolOk L N fl) {q : Nat × Nat} (hk : q.2 < L) : FolOk L N (addF fl q) := by
  intro l hl
  unfold addF
  split
  · exact h l hl
  · next hn =>
    dsimp only
    split
    · next he =>
      subst he
      refine ⟨List.nodup_append.mpr ⟨(h _ hl).1, by simp, fun x hx y hy => ?_⟩, fun x hx => ?_⟩
      · rw [List.mem_singleton.mp hy]
        intro e
        exact hn (e ▸ hx)
      · rcases List.mem_append.mp hx with hx | hx
        · exact (h _ hl).2 x hx
        · rw [List.mem_singleton.mp hx]; exact hk
    · exact h l hl
theorem FolOk.fold {L N : Nat} : ∀ (cs : List (Nat × Nat)) {fl : Nat → List Nat}, FolOk L N fl → (∀ q ∈ cs, q.2 < L) → FolOk L N (cs.foldl addF fl) := by
  intro cs
  induction cs with
  | nil => intro fl h _; exact h
  | cons q cs ih => intro fl h hq; exact ih (h.add (hq q List.mem_cons_self)) (fun x hx => hq x (List.mem_cons_of_mem _ hx))
/-- a new follower is laid -/
theorem FolR.add {cnt fls : Nat → Int32} {N : Nat} {fl : Nat → List Nat} (h : FolR cnt fls N fl) (hlen : ∀ l, l < N → (fl l).length ≤ 20) {l k : Nat} (hl : l < N) (hn : k ∉ fl l) (hr : (fl l).length < 20) : FolR (upd cnt l (nI ((fl l).length + 1))) (upd fls (20 * l + (fl l).length) (nI k)) N (addF fl (l, k)) := by
  intro j hj
  have e : addF fl (l, k) = fun j => if j = l then fl j ++ [k] else fl j := by unfold addF; rw [if_neg hn]
  rw [e]
  by_cases hjl : j = l
  · subst hjl
    refine ⟨by simp [upd], fun i hi => ?_⟩
    simp only [if_true, List.length_append, List.length_singleton] at hi
    by_cases hi2 : i = (fl j).length
    · subst hi2
      simp [upd, List.getD_eq_getElem?_getD]
    · have hi3 : i < (fl j).length := by omega
      rw [show upd fls (20 * j + (fl j).length) (nI k) (20 * j + i) = fls (20 * j + i) from pk_un (by omega), (h j hj).2 i hi3]
      simp [List.getD_eq_getElem?_getD, List.getElem?_append_left hi3]
  · have h20 := hlen j hj
    simp only [hjl, if_false]
    refine ⟨by rw [show upd cnt l (nI ((fl l).length + 1)) j = cnt j from pk_un hjl]; exact (h j hj).1, fun i hi => ?_⟩
    rw [show upd fls (20 * l + (fl l).length) (nI k) (20 * j + i) = fls (20 * j + i) from pk_un (by omega)]
    exact (h j hj).2 i hi
/-- looking for k among the followers of a line: the loop that both programs have -/
theorem mem_find {xs : List Nat} {k : Nat} : k ∈ xs ↔ ∃ i, i < xs.length ∧ xs.getD i 0 = k := by
  constructor
  · intro h
    obtain ⟨i, hi, he⟩ := List.getElem_of_mem h
    exact ⟨i, hi, by rw [List.getD_eq_getElem?_getD, List.getElem?_eq_getElem hi]; exact he⟩
  · rintro ⟨i, hi, he⟩
    rw [List.getD_eq_getElem?_getD, List.getElem?_eq_getElem hi] at he
    exact he ▸ List.getElem_mem hi
/-- a loop that looks through a row of n things for the first with a property -/
theorem q_lp_find {ρ : Type} {step : Int32 → Option (Int32 ⊕ ρ)} (n : Nat) (hn : n < 2 ^ 31) (P : Nat → Prop) [DecidablePred P] {yes : Nat → ρ} {no : ρ} (h1 : ∀ i, i < n → P i → step (nI i) = some (.inr (yes i))) (h2 : ∀ i, i < n → ¬ P i → step (nI i) = some (.inl (nI (i + 1)))) (h3 : step (nI n) = some (.inr no)) {N : Nat} (hN : n < N) : (∃ i, i < n ∧ P i ∧ (∀ j, j < i → ¬ P j) ∧ q_lp step N (nI 0) = some (yes i)) ∨ ((∀ i, i < n → ¬ P i) ∧ q_lp step N (nI 0) = some no) := by
  have key : ∀ d i N, n - i = d → i ≤ n → n - i < N → (∀ j, j < i → ¬ P j) → (∃ i0, i0 < n ∧ P i0 ∧ (∀ j, j < i0 → ¬ P j) ∧ q_lp step N (nI i) = some (yes i0)) ∨ ((∀ j, j < n → ¬ P j) ∧ q_lp step N (nI i) = some no) := by
    intro d
    induction d with
    | zero =>
      intro i N hd hi hN hj
      have : i = n := by omega
      subst this
      obtain ⟨N', rfl⟩ : ∃ N', N = N' + 1 := ⟨N - 1, by omega⟩
      exact Or.inr ⟨hj, q_lp_stop h3⟩
    | succ d ih =>
      intro i N hd hi hN hj
      obtain ⟨N', rfl⟩ : ∃ N', N = N' + 1 := ⟨N - 1, by omega⟩
      by_cases hp : P i
      · exact Or.inl ⟨i, by omega, hp, hj, q_lp_stop (h1 i (by omega) hp)⟩
      · rw [q_lp_go (h2 i (by omega) hp)]
        exact ih (i + 1) N' (by omega) (by omega) (by omega) (fun j hj2 => by
          rcases Nat.lt_or_ge j i with h | h
          · exact hj j h
          · have : j = i := by omega
            exact this ▸ hp)
  exact key n 0 N (by omega) (by omega) (by omega) (fun j hj => by omega)
/-! the class looks for a follower -/
theorem c_follows {h : qH} {a : Nat} {m : MB} (c : CB h a m) {j k : Nat} (hj : j < mbL m) (hk : k < 2 ^ 31) : F_X0_follows h a (nI j) (nI k) = some (if k ∈ mbF m j then 1 else 0) := by
  have hm := c.1
  have hL := hm.1
  have hF := hm.2.1 j hj
  have hx : ∀ i, i < (mbF m j).length → (mbF m j).getD i 0 < mbL m := fun i hi => by
    rw [List.getD_eq_getElem?_getD, List.getElem?_eq_getElem hi]
    exact hF.2 _ (List.getElem_mem hi)
  have st : ∀ i, i < (mbF m j).length → s_X0_follows_2 h a (nI j) (nI k) (nI i) = if (mbF m j).getD i 0 = k then some (.inr (.inl ())) else some (.inl (nI (i + 1))) := by
    intro i hi
    have := hx i hi
    unfold s_X0_follows_2 b_X0_follows_2
    rw [c.ob, Option.bind_some, c_cnt_in c hj, Option.bind_some, if_neg (nI_ge hi (by omega)), Option.bind_some, c_fol_in c hj hi, Option.bind_some, nI_1]
    by_cases he : (mbF m j).getD i 0 = k
    · rw [if_pos (by rw [he]), if_pos he]
    · rw [if_neg (fun q => he ((nI_eq (by omega) hk).mp q)), if_neg he]
  have hstop : s_X0_follows_2 h a (nI j) (nI k) (nI (mbF m j).length) = some (.inr (.inr ())) := by
    unfold s_X0_follows_2 b_X0_follows_2
    rw [c.ob, Option.bind_some, c_cnt_in c hj, Option.bind_some, if_pos (nI_le (Nat.le_refl _) (by omega))]
  unfold F_X0_follows
  rw [show (0 : Int32) = nI 0 from rfl]
  rcases q_lp_find (ρ := Unit ⊕ Unit) (step := s_X0_follows_2 h a (nI j) (nI k)) (mbF m j).length (by omega) (fun i => (mbF m j).getD i 0 = k) (yes := fun _ => .inl ()) (no := .inr ()) (fun i hi hp => by rw [st i hi, if_pos hp]) (fun i hi hp => by rw [st i hi, if_neg hp]) hstop (N := q_N) (q_lt_N (by omega)) with ⟨i, hi, hp, -, he⟩ | ⟨hp, he⟩
  · rw [he, if_pos (mem_find.mpr ⟨i, hi, hp⟩)]
    rfl
  · rw [he, if_neg (fun q => by obtain ⟨i, hi, hp2⟩ := mem_find.mp q; exact hp i hi hp2)]
    rfl
