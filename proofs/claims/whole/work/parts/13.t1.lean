/-! TEXTS in the class -/
section txt
variable {len : Nat} {c : Nat → Int32}
def cd (len : Nat) (c : Nat → Int32) (i : Nat) : Int32 := if i < len then c i else 0
def isD (len : Nat) (c : Nat → Int32) (i : Nat) : Bool := decide (i < len) && decide (48 ≤ c i ∧ c i ≤ 57)
def isC (len : Nat) (c : Nat → Int32) (i : Nat) : Bool := decide (i < len) && decide (97 ≤ c i ∧ c i ≤ 104)
def isK (len : Nat) (c : Nat → Int32) (k : Int32) (i : Nat) : Bool := decide (i < len) && decide (c i = k)
def okK (len : Nat) (c : Nat → Int32) (k i : Nat) : Bool := if k = 0 then isD len c i else if k = 1 then isC len c i else isK len c 61 i
def efE (len : Nat) (c : Nat → Int32) : List Nat → Nat → Bool × Nat
  | [], a => (true, a)
  | k :: ks, a => if okK len c k a = true then efE len c ks (a + 1) else (false, a)
def plsL (len : Nat) (c : Nat → Int32) : Nat → Nat → Bool × Nat
  | 0, j => (true, j)
  | n + 1, j => if isC len c j = true then (if (efE len c [1, 0] j).1 = true then plsL len c n (efE len c [1, 0] j).2 else efE len c [1, 0] j) else (true, j)
def numE (len : Nat) (c : Nat → Int32) (a : Nat) : Bool × Nat := if isD len c a = true then (if c a = 48 then (true, a + 1) else if isD len c (a + 1) = true then (true, a + 2) else (true, a + 1)) else (false, a)
def ordE (len : Nat) (c : Nat → Int32) (i : Nat) : Bool × Nat :=
  if cd len c i = 116 then (if (efE len c [0, 1, 0] (i + 1)).1 = true then plsL len c 40 (efE len c [0, 1, 0] (i + 1)).2 else efE len c [0, 1, 0] (i + 1))
  else if cd len c i = 102 then efE len c [0, 0] (i + 1)
  else if cd len c i = 115 then efE len c [1, 0, 2, 0] (i + 1)
  else if cd len c i = 109 then efE len c [0] (i + 1)
  else if cd len c i = 119 then numE len c (i + 1)
  else if cd len c i = 112 then efE len c [1, 0] (i + 1)
  else (false, i)
def fltE (len : Nat) (c : Nat → Int32) : Nat → Nat → Int32
  | 0, _ => 0
  | n + 1, i => if (ordE len c i).1 = true then (if len ≤ (ordE len c i).2 then -6 else if isK len c 59 (ordE len c i).2 = true then fltE len c n ((ordE len c i).2 + 1) else nI (ordE len c i).2) else nI (ordE len c i).2
def enc (r : Bool × Nat) : Int32 := if r.1 = true then nI r.2 else nI r.2 ^^^ (-1)
theorem enc_f : ∀ i, i < 256 → (nI i ^^^ (-1)) < 0 ∧ (nI i ^^^ (-1)) ^^^ (-1) = nI i := by decide +kernel
theorem isC_lt {i : Nat} (h : isC len c i = true) : i < len := by
  unfold isC at h
  simp at h
  exact h.1
theorem isD_lt {i : Nat} (h : isD len c i = true) : i < len := by
  unfold isD at h
  simp at h
  exact h.1
theorem okK_lt {k i : Nat} (h : okK len c k i = true) : i < len := by
  unfold okK at h
  split at h
  · exact isD_lt h
  · split at h
    · exact isC_lt h
    · unfold isK at h
      simp at h
      exact h.1
theorem efE_ok : ∀ (ks : List Nat) (a : Nat), (efE len c ks a).1 = true → (efE len c ks a).2 = a + ks.length ∧ (a ≤ len → a + ks.length ≤ len)
  | [], a, _ => ⟨rfl, fun h => h⟩
  | k :: ks, a, h => by
    unfold efE at h ⊢
    by_cases hk : okK len c k a = true
    · rw [if_pos hk] at h ⊢
      have hl := okK_lt hk
      obtain ⟨h1, h2⟩ := efE_ok ks (a + 1) h
      rw [h1, List.length_cons]
      exact ⟨by omega, fun _ => by have := h2 (by omega); omega⟩
    · rw [if_neg hk] at h
      cases h
theorem efE_no : ∀ (ks : List Nat) (a : Nat), (efE len c ks a).1 = false → a ≤ (efE len c ks a).2 ∧ (efE len c ks a).2 < a + ks.length
  | [], a, h => by cases h
  | k :: ks, a, h => by
    unfold efE at h ⊢
    by_cases hk : okK len c k a = true
    · rw [if_pos hk] at h ⊢
      have := efE_no ks (a + 1) h
      rw [List.length_cons]
      omega
    · rw [if_neg hk]
      show a ≤ a ∧ a < a + (ks.length + 1)
      omega
theorem plsL_ok : ∀ (n j : Nat), j ≤ len → (plsL len c n j).1 = true → j ≤ (plsL len c n j).2 ∧ (plsL len c n j).2 ≤ len
  | 0, j, hj, _ => ⟨Nat.le_refl j, hj⟩
  | n + 1, j, hj, h => by
    unfold plsL at h ⊢
    by_cases hc : isC len c j = true
    · rw [if_pos hc] at h ⊢
      by_cases he : (efE len c [1, 0] j).1 = true
      · rw [if_pos he] at h ⊢
        obtain ⟨e1, e2⟩ := efE_ok _ _ he
        have e2 := e2 hj
        rw [e1] at h ⊢
        have := plsL_ok n (j + [1, 0].length) e2 h
        have h2 : [1, 0].length = 2 := rfl
        rw [h2] at this ⊢
        omega
      · rw [if_neg he] at h
        exact absurd h he
    · rw [if_neg hc]
      exact ⟨Nat.le_refl j, hj⟩
theorem plsL_lt : ∀ (n j : Nat), j ≤ len → (plsL len c n j).2 ≤ len + 1
  | 0, j, hj => by show j ≤ len + 1; omega
  | n + 1, j, hj => by
    unfold plsL
    by_cases hc : isC len c j = true
    · rw [if_pos hc]
      by_cases he : (efE len c [1, 0] j).1 = true
      · rw [if_pos he]
        obtain ⟨e1, e2⟩ := efE_ok _ _ he
        have e2 := e2 hj
        rw [e1]
        exact plsL_lt n _ e2
      · rw [if_neg he]
        have := efE_no (len := len) (c := c) [1, 0] j (by simpa using he)
        have h2 : [1, 0].length = 2 := rfl
        have hlt := isC_lt hc
        rw [h2] at this
        omega
    · rw [if_neg hc]
      show j ≤ len + 1
      omega
theorem cd_lt {i : Nat} {k : Int32} (h : cd len c i = k) (hk : k ≠ 0) : i < len ∧ c i = k := by
  unfold cd at h
  by_cases hi : i < len
  · rw [if_pos hi] at h
    exact ⟨hi, h⟩
  · rw [if_neg hi] at h
    exact absurd h.symm hk
theorem ord_ok {i : Nat} (h : (ordE len c i).1 = true) : i + 2 ≤ (ordE len c i).2 ∧ (ordE len c i).2 ≤ len := by
  unfold ordE at h ⊢
  by_cases h1 : cd len c i = 116
  · have hi := (cd_lt h1 (by decide)).1
    rw [if_pos h1] at h ⊢
    by_cases he : (efE len c [0, 1, 0] (i + 1)).1 = true
    · rw [if_pos he] at h ⊢
      obtain ⟨e1, e2⟩ := efE_ok _ _ he
      have e2 := e2 (by omega)
      rw [e1] at h ⊢
      have := plsL_ok 40 _ e2 h
      have h3 : [0, 1, 0].length = 3 := rfl
      rw [h3] at this ⊢
      omega
    · rw [if_neg he] at h
      exact absurd h he
  · rw [if_neg h1] at h ⊢
    have ef : ∀ ks : List Nat, i < len → 1 ≤ ks.length → (efE len c ks (i + 1)).1 = true → i + 2 ≤ (efE len c ks (i + 1)).2 ∧ (efE len c ks (i + 1)).2 ≤ len := by
      intro ks hi hk he
      obtain ⟨e1, e2⟩ := efE_ok _ _ he
      have e2 := e2 (by omega)
      rw [e1]
      omega
    by_cases h2 : cd len c i = 102
    · rw [if_pos h2] at h ⊢
      exact ef _ (cd_lt h2 (by decide)).1 (by decide) h
    · rw [if_neg h2] at h ⊢
      by_cases h3 : cd len c i = 115
      · rw [if_pos h3] at h ⊢
        exact ef _ (cd_lt h3 (by decide)).1 (by decide) h
      · rw [if_neg h3] at h ⊢
        by_cases h4 : cd len c i = 109
        · rw [if_pos h4] at h ⊢
          exact ef _ (cd_lt h4 (by decide)).1 (by decide) h
        · rw [if_neg h4] at h ⊢
          by_cases h5 : cd len c i = 119
          · rw [if_pos h5] at h ⊢
            unfold numE at h ⊢
            by_cases hd : isD len c (i + 1) = true
            · have := isD_lt hd
              rw [if_pos hd]
              by_cases h0 : c (i + 1) = 48
              · rw [if_pos h0]
                show i + 2 ≤ i + 1 + 1 ∧ i + 1 + 1 ≤ len
                omega
              · rw [if_neg h0]
                by_cases hd2 : isD len c (i + 1 + 1) = true
                · have := isD_lt hd2
                  rw [if_pos hd2]
                  show i + 2 ≤ i + 1 + 2 ∧ i + 1 + 2 ≤ len
                  omega
                · rw [if_neg hd2]
                  show i + 2 ≤ i + 1 + 1 ∧ i + 1 + 1 ≤ len
                  omega
            · rw [if_neg hd] at h
              cases h
          · rw [if_neg h5] at h ⊢
            by_cases h6 : cd len c i = 112
            · rw [if_pos h6] at h ⊢
              exact ef _ (cd_lt h6 (by decide)).1 (by decide) h
            · rw [if_neg h6] at h
              cases h
theorem ord_lt {i : Nat} (hi : i ≤ len) : (ordE len c i).2 ≤ len + 4 := by
  have ef : ∀ ks : List Nat, ks.length ≤ 4 → i < len → (efE len c ks (i + 1)).2 ≤ len + 4 := by
    intro ks hk hi
    cases he : (efE len c ks (i + 1)).1 with
    | true =>
      obtain ⟨e1, e2⟩ := efE_ok _ _ he
      have e2 := e2 (by omega)
      omega
    | false =>
      have := efE_no (len := len) (c := c) ks (i + 1) he
      omega
  unfold ordE
  by_cases h1 : cd len c i = 116
  · have hi := (cd_lt h1 (by decide)).1
    rw [if_pos h1]
    by_cases he : (efE len c [0, 1, 0] (i + 1)).1 = true
    · rw [if_pos he]
      obtain ⟨e1, e2⟩ := efE_ok _ _ he
      have e2 := e2 (by omega)
      rw [e1]
      have := plsL_lt (c := c) 40 _ e2
      omega
    · rw [if_neg he]
      exact ef _ (by decide) hi
  · rw [if_neg h1]
    by_cases h2 : cd len c i = 102
    · rw [if_pos h2]
      exact ef _ (by decide) (cd_lt h2 (by decide)).1
    · rw [if_neg h2]
      by_cases h3 : cd len c i = 115
      · rw [if_pos h3]
        exact ef _ (by decide) (cd_lt h3 (by decide)).1
      · rw [if_neg h3]
        by_cases h4 : cd len c i = 109
        · rw [if_pos h4]
          exact ef _ (by decide) (cd_lt h4 (by decide)).1
        · rw [if_neg h4]
          by_cases h5 : cd len c i = 119
          · have hi := (cd_lt h5 (by decide)).1
            rw [if_pos h5]
            unfold numE
            (repeat' split) <;> (show _ ≤ _; simp only []; omega)
          · rw [if_neg h5]
            by_cases h6 : cd len c i = 112
            · rw [if_pos h6]
              exact ef _ (by decide) (cd_lt h6 (by decide)).1
            · rw [if_neg h6]
              show i ≤ len + 4
              omega
variable {σ : wx_St}
theorem codeAt5 (hp : padI len c σ) (hl : len ≤ 80) {i : Nat} (hi : i < 2 ^ 20) : f_X2_codeAt (nI i) σ = some (cd len c i) := by
  unfold f_X2_codeAt f_X2_codeAt_21 f_X2_codeAt_22 cd
  rw [if_neg (nI_pos (by omega)), hp.1]
  by_cases h : i < len
  · rw [if_neg (nI_ge h (by omega)), if_pos h, px_rI (by omega) (by decide), hp.2 i h]
  · rw [if_pos (nI_le (by omega) (by omega)), if_neg h]
theorem isDigit5 (hp : padI len c σ) (hl : len ≤ 80) {i : Nat} (hi : i < 2 ^ 20) : f_X2_isDigit (nI i) σ = some (b01 (isD len c i)) := by
  unfold f_X2_isDigit f_X2_isDigit_24 f_X2_isDigit_25 isD
  rw [px_o (codeAt5 hp hl hi), px_o (codeAt5 hp hl hi)]
  unfold cd
  by_cases h : i < len
  · rw [if_pos h, decide_eq_true h, Bool.true_and]
    by_cases h1 : c i < 48
    · rw [if_pos h1, decide_eq_false (fun hh : 48 ≤ c i ∧ c i ≤ 57 => by
        have := hh.1
        rw [Int32.lt_iff_toInt_lt] at h1
        rw [Int32.le_iff_toInt_le] at this
        omega)]
      exact px_z (c := false)
    · rw [if_neg h1]
      by_cases h2 : 57 < c i
      · rw [if_pos h2, decide_eq_false (fun hh : 48 ≤ c i ∧ c i ≤ 57 => by
          have := hh.2
          rw [Int32.lt_iff_toInt_lt] at h2
          rw [Int32.le_iff_toInt_le] at this
          omega)]
        exact px_z (c := false)
      · rw [if_neg h2, decide_eq_true (show 48 ≤ c i ∧ c i ≤ 57 by
          rw [Int32.lt_iff_toInt_lt] at h1 h2
          rw [Int32.le_iff_toInt_le, Int32.le_iff_toInt_le]
          omega)]
        exact px_z (c := true)
  · rw [if_neg h, decide_eq_false h, if_pos (by decide)]
    exact px_z (c := false)
theorem isColumn5 (hp : padI len c σ) (hl : len ≤ 80) {i : Nat} (hi : i < 2 ^ 20) : f_X2_isColumn (nI i) σ = some (b01 (isC len c i)) := by
  unfold f_X2_isColumn f_X2_isColumn_24 f_X2_isColumn_25 isC
  rw [px_o (codeAt5 hp hl hi), px_o (codeAt5 hp hl hi)]
  unfold cd
  by_cases h : i < len
  · rw [if_pos h, decide_eq_true h, Bool.true_and]
    by_cases h1 : c i < 97
    · rw [if_pos h1, decide_eq_false (fun hh : 97 ≤ c i ∧ c i ≤ 104 => by
        have := hh.1
        rw [Int32.lt_iff_toInt_lt] at h1
        rw [Int32.le_iff_toInt_le] at this
        omega)]
      exact px_z (c := false)
    · rw [if_neg h1]
      by_cases h2 : 104 < c i
      · rw [if_pos h2, decide_eq_false (fun hh : 97 ≤ c i ∧ c i ≤ 104 => by
          have := hh.2
          rw [Int32.lt_iff_toInt_lt] at h2
          rw [Int32.le_iff_toInt_le] at this
          omega)]
        exact px_z (c := false)
      · rw [if_neg h2, decide_eq_true (show 97 ≤ c i ∧ c i ≤ 104 by
          rw [Int32.lt_iff_toInt_lt] at h1 h2
          rw [Int32.le_iff_toInt_le, Int32.le_iff_toInt_le]
          omega)]
        exact px_z (c := true)
  · rw [if_neg h, decide_eq_false h, if_pos (by decide)]
    exact px_z (c := false)
def kch (k : Nat) : Int32 := if k = 0 then 100 else if k = 1 then 99 else 61
theorem endOf_loop (hp : padI len c σ) (hl : len ≤ 80) {f : Nat} {kk : List Nat} (hL : f_J0_length_8abf5 f = some (nI kk.length)) (hk4 : kk.length ≤ 4) (hC : ∀ j (hj : j < kk.length), f_J0_charAt_5068e f (nI j) = some (kch kk[j])) {a : Nat} (ha : a < 1000) : ∀ (ks : List Nat) (j m : Nat), kk.drop j = ks → j + ks.length = kk.length → ks.length < m → f_X2_endOf_2 f m (nI a) (nI j) σ = some (enc (efE len c ks (a + j)))
  | [], j, m, _, hj, hm => by
    obtain ⟨m, rfl⟩ : ∃ k, m = k + 1 := ⟨m - 1, by omega⟩
    have hj : j = kk.length := by simpa using hj
    subst hj
    rw [f_X2_endOf_2, px_o hL, if_pos (nI_le (Nat.le_refl _) (by omega)), px_o hL, nI_add]
    rfl
  | k :: ks, j, m, hd, hj, hm => by
    rw [List.length_cons] at hj hm
    obtain ⟨m, rfl⟩ : ∃ k, m = k + 1 := ⟨m - 1, by omega⟩
    have hjL : j < kk.length := by omega
    have hkj : kk[j] = k := by
      have := List.drop_eq_getElem_cons hjL
      rw [hd] at this
      cases this
      rfl
    have hd2 : kk.drop (j + 1) = ks := by
      have := List.drop_eq_getElem_cons hjL
      rw [hd] at this
      cases this
      rfl
    have ih := endOf_loop hp hl hL hk4 hC ha ks (j + 1) m hd2 (by omega) (by omega)
    have hc := hC j hjL
    rw [hkj] at hc
    have key : ∀ ok, f_X2_endOf_68 f (f_X2_endOf_2 f m) (nI a) (nI j) (kch k) (b01 ok) σ = if ok = true then some (enc (efE len c ks (a + (j + 1)))) else some (nI (a + j) ^^^ (-1)) := by
      intro ok
      unfold f_X2_endOf_68
      rw [nI_add, nI_1, ih]
      cases ok
      · rfl
      · rfl
    have fin : ∀ ok, okK len c k (a + j) = ok → (if ok = true then some (enc (efE len c ks (a + (j + 1)))) else some (nI (a + j) ^^^ (-1))) = some (enc (efE len c (k :: ks) (a + j))) := by
      intro ok hok
      show _ = some (enc (if okK len c k (a + j) = true then efE len c ks (a + j + 1) else (false, a + j)))
      rw [hok]
      cases ok
      · rfl
      · rfl
    rw [f_X2_endOf_2, px_o hL, if_neg (nI_ge hjL (by omega)), px_o hc, nI_add, px_o (isDigit5 hp hl (by omega)), px_o (isColumn5 hp hl (by omega)), px_o (codeAt5 hp hl (by omega))]
    by_cases h0 : k = 0
    · subst h0
      rw [if_pos (by decide), key]
      exact fin _ rfl
    · by_cases h1 : k = 1
      · subst h1
        rw [if_neg (by decide), if_pos (by decide), key]
        exact fin _ rfl
      · have hk : kch k = 61 := by
          unfold kch
          rw [if_neg h0, if_neg h1]
        have hok : okK len c k (a + j) = isK len c 61 (a + j) := by
          unfold okK
          rw [if_neg h0, if_neg h1]
        rw [if_neg (by rw [hk]; decide), if_neg (by rw [hk]; decide)]
        have key2 : (if cd len c (a + j) = kch k then f_X2_endOf_68 f (f_X2_endOf_2 f m) (nI a) (nI j) (kch k) 1 σ else f_X2_endOf_68 f (f_X2_endOf_2 f m) (nI a) (nI j) (kch k) 0 σ) = f_X2_endOf_68 f (f_X2_endOf_2 f m) (nI a) (nI j) (kch k) (b01 (isK len c 61 (a + j))) σ := by
          unfold cd isK
          rw [hk]
          by_cases hlt : a + j < len
          · rw [if_pos hlt, decide_eq_true hlt, Bool.true_and]
            by_cases he : c (a + j) = 61
            · rw [if_pos he, decide_eq_true he]
              rfl
            · rw [if_neg he, decide_eq_false he]
              rfl
          · rw [if_neg hlt, decide_eq_false hlt, if_neg (by decide)]
            rfl
        rw [key2, key]
        exact fin _ hok
theorem endOf5 (hp : padI len c σ) (hl : len ≤ 80) {a : Nat} (ha : a < 1000) : f_X2_endOf 0 (nI a) σ = some (enc (efE len c [0, 1, 0] a)) ∧ f_X2_endOf 1 (nI a) σ = some (enc (efE len c [1, 0] a)) ∧ f_X2_endOf 2 (nI a) σ = some (enc (efE len c [0, 0] a)) ∧ f_X2_endOf 3 (nI a) σ = some (enc (efE len c [1, 0, 2, 0] a)) ∧ f_X2_endOf 4 (nI a) σ = some (enc (efE len c [0] a)) := by
  have go : ∀ (f : Nat) (kk : List Nat), f_J0_length_8abf5 f = some (nI kk.length) → kk.length ≤ 4 → (∀ j (hj : j < kk.length), f_J0_charAt_5068e f (nI j) = some (kch kk[j])) → f_X2_endOf f (nI a) σ = some (enc (efE len c kk a)) := by
    intro f kk h1 h2 h3
    exact endOf_loop hp hl h1 h2 h3 ha kk 0 2000 rfl (by omega) (by omega)
  refine ⟨go 0 _ (by decide +kernel) (by decide) (by decide +kernel), go 1 _ (by decide +kernel) (by decide) (by decide +kernel), go 2 _ (by decide +kernel) (by decide) (by decide +kernel), go 3 _ (by decide +kernel) (by decide) (by decide +kernel), go 4 _ (by decide +kernel) (by decide) (by decide +kernel)⟩
theorem enc_neg {r : Bool × Nat} (h : r.1 = false) (hr : r.2 < 256) : enc r < 0 ∧ enc r ^^^ (-1) = nI r.2 := by
  unfold enc
  rw [h, if_neg (by decide)]
  exact enc_f r.2 hr
theorem plcs5 (hp : padI len c σ) (hl : len ≤ 80) {x1 : Int32} : ∀ (n j m k : Nat), j ≤ len → len ≤ j + 2 * n → k + n ≤ 80 → n + 1 < m → f_X2_endOfPlaces_4 m x1 (nI j) (nI k) σ = some (enc (plsL len c n j)) := by
  intro n
  induction n with
  | zero =>
    intro j m k hj hjl hk hm
    obtain ⟨m, rfl⟩ : ∃ k, m = k + 1 := ⟨m - 1, by omega⟩
    have hc : isC len c j = false := by
      cases h : isC len c j with
      | false => rfl
      | true =>
        have := isC_lt h
        omega
    rw [f_X2_endOfPlaces_4]
    unfold f_X2_endOfPlaces_36
    by_cases h80 : (80 : Int32) ≤ nI k
    · rw [if_pos h80]
      rfl
    · rw [if_neg h80, if_neg (nI_pos (by omega)), px_o (isColumn5 hp hl (by omega)), hc, if_pos (show b01 false = 0 from rfl)]
      rfl
  | succ n ih =>
    intro j m k hj hjl hk hm
    obtain ⟨m, rfl⟩ : ∃ k, m = k + 1 := ⟨m - 1, by omega⟩
    rw [f_X2_endOfPlaces_4, if_neg (show ¬ (80 : Int32) ≤ nI k from nI_ge (a := k) (b := 80) (by omega) (by decide)), if_neg (nI_pos (by omega)), px_o (isColumn5 hp hl (by omega))]
    unfold plsL
    cases hc : isC len c j with
    | false =>
      rw [if_pos (show b01 false = 0 from rfl), if_neg (by decide)]
      rfl
    | true =>
      rw [if_neg (show ¬ b01 true = 0 by decide), if_pos rfl, px_o (endOf5 hp hl (by omega)).2.1, nI_1]
      cases he : (efE len c [1, 0] j).1 with
      | true =>
        obtain ⟨e1, e2⟩ := efE_ok _ _ he
        have e2 := e2 hj
        have h2 : [1, 0].length = 2 := rfl
        rw [h2] at e1 e2
        rw [if_pos rfl, e1]
        have : enc (efE len c [1, 0] j) = nI (j + 2) := by
          unfold enc
          rw [he, if_pos rfl, e1]
        rw [this]
        exact ih (j + 2) m (k + 1) e2 (by omega) (by omega) (by omega)
      | false =>
        rw [if_neg (by decide)]
        have hn := efE_no (len := len) (c := c) [1, 0] j he
        have h2 : [1, 0].length = 2 := rfl
        rw [h2] at hn
        have hneg := (enc_neg he (by omega)).1
        obtain ⟨m, rfl⟩ : ∃ k, m = k + 1 := ⟨m - 1, by omega⟩
        rw [f_X2_endOfPlaces_4]
        unfold f_X2_endOfPlaces_36
        by_cases h80 : (80 : Int32) ≤ nI (k + 1)
        · rw [if_pos h80]
        · rw [if_neg h80, if_pos hneg]
theorem number5 (hp : padI len c σ) (hl : len ≤ 80) {a : Nat} (ha : a < 1000) : f_X2_endOfNumber (nI a) σ = some (enc (numE len c a)) := by
  unfold f_X2_endOfNumber f_X2_endOfNumber_38 f_X2_endOfNumber_41 numE
  have e2 : nI a + 2 = nI (a + 2) := nI_add a 2
  rw [px_o (isDigit5 hp hl (by omega)), px_o (codeAt5 hp hl (by omega)), nI_1, px_o (isDigit5 hp hl (by omega)), e2]
  cases hd : isD len c a with
  | false =>
    rw [if_pos (show b01 false = 0 from rfl), if_neg (by decide)]
    rfl
  | true =>
    have hcd : cd len c a = c a := if_pos (isD_lt hd)
    rw [if_neg (show ¬ b01 true = 0 by decide), if_pos rfl, hcd]
    by_cases h0 : c a = 48
    · rw [if_pos h0, if_pos h0]
      rfl
    · rw [if_neg h0, if_neg h0]
      cases hd2 : isD len c (a + 1) with
      | false =>
        rw [if_pos (show b01 false = 0 from rfl), if_neg (by decide)]
        rfl
      | true =>
        rw [if_neg (show ¬ b01 true = 0 by decide), if_pos rfl]
        rfl
theorem order5 (hp : padI len c σ) (hl : len ≤ 80) {i : Nat} (hi : i ≤ len) : f_X2_endOfOrder (nI i) σ = some (enc (ordE len c i)) := by
  obtain ⟨e0, e1, e2, e3, e4⟩ := endOf5 hp hl (a := i + 1) (by omega)
  have ei : nI i ^^^ (-1) = enc (false, i) := rfl
  unfold f_X2_endOfOrder ordE
  rw [px_o (codeAt5 hp hl (by omega)), nI_1, px_o e0, px_o e1, px_o e2, px_o e3, px_o e4, px_o (number5 hp hl (by omega)), ei]
  by_cases h116 : cd len c i = 116
  · have hi := (cd_lt h116 (by decide)).1
    rw [if_pos h116, h116, if_neg (by decide), if_neg (by decide), if_neg (by decide), if_neg (by decide), if_neg (by decide), if_neg (by decide), if_neg (by decide), if_neg (by decide), if_neg (by decide), if_neg (by decide), if_neg (by decide), if_neg (by decide), if_neg (by decide), if_neg (by decide), if_pos rfl]
    unfold f_X2_endOfPlaces
    cases he : (efE len c [0, 1, 0] (i + 1)).1 with
    | true =>
      obtain ⟨q1, q2⟩ := efE_ok _ _ he
      have q2 := q2 (by omega)
      have h3 : [0, 1, 0].length = 3 := rfl
      have hen : enc (efE len c [0, 1, 0] (i + 1)) = nI (efE len c [0, 1, 0] (i + 1)).2 := by
        unfold enc
        rw [he, if_pos rfl]
      rw [if_pos rfl, hen, q1, h3]
      have := plcs5 hp hl (x1 := nI (i + 1 + 3)) 40 (i + 1 + 3) 2000 0 (by omega) (by omega) (by omega) (by omega)
      have this' : f_X2_endOfPlaces_4 2000 (nI (i + 1 + 3)) (nI (i + 1 + 3)) 0 σ = _ := this
      rw [px_o this']
    | false =>
      have hn := efE_no (len := len) (c := c) [0, 1, 0] (i + 1) he
      have h3 : [0, 1, 0].length = 3 := rfl
      rw [h3] at hn
      have hneg := (enc_neg he (by omega)).1
      rw [if_neg (by decide)]
      have : f_X2_endOfPlaces_4 2000 (enc (efE len c [0, 1, 0] (i + 1))) (enc (efE len c [0, 1, 0] (i + 1))) 0 σ = some (enc (efE len c [0, 1, 0] (i + 1))) := by
        rw [f_X2_endOfPlaces_4, if_neg (by decide), if_pos hneg]
        rfl
      rw [px_o this]
  · rw [if_neg h116, if_neg h116]
    by_cases h102 : cd len c i = 102
    · rw [if_pos h102, if_pos h102]
    · rw [if_neg h102, if_neg h102]
      by_cases h115 : cd len c i = 115
      · rw [if_pos h115, if_pos h115, h115]
        rfl
      · rw [if_neg h115, if_neg h115]
        by_cases h109 : cd len c i = 109
        · rw [if_pos h109, if_pos h109, h109]
          rfl
        · rw [if_neg h109, if_neg h109]
          by_cases h119 : cd len c i = 119
          · rw [if_pos h119, if_pos h119, h119]
            rfl
          · rw [if_neg h119, if_neg h119]
            by_cases h112 : cd len c i = 112
            · rw [if_pos h112, if_pos h112, h112]
              rfl
            · rw [if_neg h112, if_neg h112]
              simp only [ite_self]
theorem fault5 (hp : padI len c σ) (hl : len ≤ 80) : ∀ (n i m k : Nat), i ≤ len → len + 3 ≤ i + 3 * n → k + n ≤ 40 → n < m → f_X2_firstFault_4 m (nI i) (nI k) σ = some (fltE len c n i) := by
  intro n
  induction n with
  | zero => intro i m k hi h1 h2 h3; omega
  | succ n ih =>
    intro i m k hi h1 h2 h3
    obtain ⟨m, rfl⟩ : ∃ k, m = k + 1 := ⟨m - 1, by omega⟩
    rw [f_X2_firstFault_4, if_neg (show ¬ (80 : Int32) ≤ nI k from nI_ge (a := k) (b := 80) (by omega) (by decide)), px_o (order5 hp hl hi), hp.1]
    unfold fltE
    cases ho : (ordE len c i).1 with
    | true =>
      obtain ⟨o1, o2⟩ := ord_ok ho
      have hen : enc (ordE len c i) = nI (ordE len c i).2 := by
        unfold enc
        rw [ho, if_pos rfl]
      rw [hen, if_pos (nI_pos' (by omega)), if_pos rfl]
      by_cases hle : len ≤ (ordE len c i).2
      · rw [if_neg (nI_nlt hle (by omega)), if_pos hle]
      · rw [if_pos (nI_lt (by omega) (by omega)), if_neg hle, px_o (codeAt5 hp hl (by omega)), nI_1, nI_1]
        have hcd : cd len c (ordE len c i).2 = c (ordE len c i).2 := if_pos (by omega)
        rw [hcd]
        unfold isK
        rw [decide_eq_true (show (ordE len c i).2 < len by omega), Bool.true_and]
        by_cases h59 : c (ordE len c i).2 = 59
        · rw [if_pos h59, decide_eq_true h59, if_pos rfl]
          exact ih ((ordE len c i).2 + 1) m (k + 1) (by omega) (by omega) (by omega) (by omega)
        · rw [if_neg h59, decide_eq_false h59, if_neg (by decide)]
    | false =>
      have hlt := ord_lt (c := c) hi
      obtain ⟨n1, n2⟩ := enc_neg ho (by omega)
      have hneg : ¬ 0 ≤ enc (ordE len c i) := by
        intro hh
        rw [Int32.lt_iff_toInt_lt] at n1
        rw [Int32.le_iff_toInt_le] at hh
        omega
      rw [if_neg hneg, n2, if_neg (show ¬ false = true by decide)]
theorem firstFault5 (hp : padI len c σ) (hl : len ≤ 80) : f_X2_firstFault σ = some (fltE len c 28 0) :=
  fault5 hp hl 28 0 2000 0 (by omega) (by omega) (by omega) (by omega)
end txt
