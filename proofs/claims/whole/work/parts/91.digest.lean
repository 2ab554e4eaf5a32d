/-! digest -/
def hF (g : Nat → Int64) : Nat → Nat → Int64 → Int64
  | 0, _, h => h
  | t + 1, i, h => hF g t (i + 1) (((31 : Int64) * h) + g i)
theorem hF_add (g : Nat → Int64) : ∀ a b i h, hF g (a + b) i h = hF g b (i + a) (hF g a i h) := by
  intro a
  induction a with
  | zero => intro b i h; rw [Nat.zero_add]; rfl
  | succ a ih =>
    intro b i h
    rw [show a + 1 + b = a + b + 1 by omega, hF, hF, ih, show i + 1 + a = i + (a + 1) by omega]
theorem mixM (v : Int64) (μ : Mm) : ∃ μ2, f_X7_mix v μ = some ((), μ2) ∧ μ2.1 = μ.1 ∧ μ2.2 0 22 = ((31 : Int64) * (μ.2 0 22)) + v := ⟨_, rfl, rfl, by rw [sj_rd, if_pos ⟨rfl, rfl⟩]⟩
theorem dgC6 {N : Nat → Nat} {hist : Nat → Nat → Nat} {st : Nat} {tx : Nat → Nat} {len : Nat} {rf : Nat → Int32} {μ : Mm} (hR : RC N hist st tx len rf μ) (K : Int64 → Mm → Option (Int64 × Mm)) : ∀ (t f i : Nat) (h : Int64), i + t = 15 → t < f → lp_X6_digest_6 f h (nI i) μ K = K (hF (fun w => (toldN N st len rf w).toInt64) t i h) μ := by
  intro t
  induction t with
  | zero =>
    intro f i h h1 h2
    obtain ⟨f, rfl⟩ : ∃ q, f = q + 1 := ⟨f - 1, by omega⟩
    rw [lp_X6_digest_6, i15, if_pos ((nI_leI (by omega) (by omega)).mpr (by omega))]
    rfl
  | succ t ih =>
    intro f i h h1 h2
    obtain ⟨f, rfl⟩ : ∃ q, f = q + 1 := ⟨f - 1, by omega⟩
    rw [lp_X6_digest_6, i15, if_neg (by rw [nI_leI (by omega) (by omega)]; omega), toldC hR (by omega), bd_some, nI_1, ih f (i + 1) _ (by omega) (by omega)]
    rfl
theorem dgM9 {N : Nat → Nat} {hist : Nat → Nat → Nat} {st : Nat} {tx : Nat → Nat} {len : Nat} {rf : Nat → Int32} (K : Mm → Option (Int64 × Mm)) : ∀ (t f i : Nat) (μ : Mm), i + t = 15 → t < f → RM N hist st tx len rf μ → ∃ μ2, lp_X7_digest_9 f (nI i) μ K = K μ2 ∧ μ2.1 = μ.1 ∧ μ2.2 0 22 = hF (fun w => (toldN N st len rf w).toInt64) t i (μ.2 0 22) := by
  intro t
  induction t with
  | zero =>
    intro f i μ h1 h2 hR
    obtain ⟨f, rfl⟩ : ∃ q, f = q + 1 := ⟨f - 1, by omega⟩
    rw [lp_X7_digest_9, i15, if_pos ((nI_leI (by omega) (by omega)).mpr (by omega))]
    exact ⟨μ, rfl, rfl, rfl⟩
  | succ t ih =>
    intro f i μ h1 h2 hR
    obtain ⟨f, rfl⟩ : ∃ q, f = q + 1 := ⟨f - 1, by omega⟩
    obtain ⟨μa, a1, a2, a3⟩ := mixM (toldN N st len rf i).toInt64 μ
    rw [lp_X7_digest_9, i15, if_neg (by rw [nI_leI (by omega) (by omega)]; omega), toldM hR (by omega), bd_some, a1, bd_some, nI_1]
    obtain ⟨μ2, g1, g2, g3⟩ := ih f (i + 1) μa (by omega) (by omega) (by unfold RM MR at *; rw [a2]; exact hR)
    exact ⟨μ2, g1, g2.trans a2, by rw [g3, a3]; rfl⟩
def phG (N : Nat → Nat) (y : Nat) : Int64 := (nI (ofN N (y / 7) (y % 7))).toInt64
theorem dgC17 {N : Nat → Nat} {μ : Mm} (hs : SR μ 1 N) (K : Int64 → Mm → Option (Int64 × Mm)) {i : Nat} (hi : i < 12) : ∀ (t f w : Nat) (h : Int64), w + t = 7 → t < f → lp_X4_digestOn_17 (nI i) f h (nI w) μ K = K (hF (phG N) t (7 * i + w) h) μ := by
  intro t
  induction t with
  | zero =>
    intro f w h h1 h2
    obtain ⟨f, rfl⟩ : ∃ q, f = q + 1 := ⟨f - 1, by omega⟩
    rw [lp_X4_digestOn_17, i7, if_pos ((nI_leI (by omega) (by omega)).mpr (by omega))]
    rfl
  | succ t ih =>
    intro f w h h1 h2
    obtain ⟨f, rfl⟩ : ∃ q, f = q + 1 := ⟨f - 1, by omega⟩
    have e : phG N (7 * i + w) = (nI (ofN N i w)).toInt64 := by
      unfold phG
      rw [show (7 * i + w) / 7 = i by omega, show (7 * i + w) % 7 = w by omega]
    rw [lp_X4_digestOn_17, i7, if_neg (by rw [nI_leI (by omega) (by omega)]; omega), ofC hs hi (by omega), bd_some, nI_1, ih f (w + 1) _ (by omega) (by omega), hF, e]
    rfl
theorem dgC5 {B : Nat} {N : Nat → Nat} (hO : Ok B N) {μ : Mm} (hs : SR μ 1 N) (K : Int64 → Mm → Option (Int64 × Mm)) : ∀ (t f i : Nat) (h : Int64), i + t = N 0 → t < f → lp_X4_digestOn_5 f h (nI i) μ K = K (hF (phG N) (7 * t) (7 * i) h) μ := by
  have h12 := hO.1.1
  intro t
  induction t with
  | zero =>
    intro f i h h1 h2
    obtain ⟨f, rfl⟩ : ∃ q, f = q + 1 := ⟨f - 1, by omega⟩
    rw [lp_X4_digestOn_5, hs.cnt, if_pos ((nI_leI (by omega) (by omega)).mpr (by omega))]
    rfl
  | succ t ih =>
    intro f i h h1 h2
    obtain ⟨f, rfl⟩ : ∃ q, f = q + 1 := ⟨f - 1, by omega⟩
    have := dgC17 hs (fun x5 μ6 => lp_X4_digestOn_5 f x5 (nI (i + 1)) μ6 K) (show i < 12 by omega) 7 FU 0 h (by omega) (by decide)
    rw [← iz0, Nat.add_zero] at this
    rw [lp_X4_digestOn_5, hs.cnt, if_neg (by rw [nI_leI (by omega) (by omega)]; omega), nI_1, this, ih f (i + 1) _ (by omega) (by omega), show 7 * (t + 1) = 7 + 7 * t by omega, hF_add, show 7 * (i + 1) = 7 * i + 7 by omega]
    rfl
theorem dgM33 {B : Nat} {N : Nat → Nat} (hO : Ok B N) (hB : B < 2 ^ 31) (K : Mm → Option (Int64 × Mm)) : ∀ (t f y : Nat) (μ : Mm), y + t = 7 * N 0 → t < f → MR μ N → ∃ μ2, lp_X7_digest_33 f (nI y) μ K = K μ2 ∧ μ2.1 = μ.1 ∧ μ2.2 0 22 = hF (phG N) t y (μ.2 0 22) := by
  have h12 := hO.1.1
  intro t
  induction t with
  | zero =>
    intro f y μ h1 h2 hs
    obtain ⟨f, rfl⟩ : ∃ q, f = q + 1 := ⟨f - 1, by omega⟩
    rw [lp_X7_digest_33, hs 0 (by omega), i7, pk_mul, if_pos ((nI_leI (by omega) (by omega)).mpr (by omega))]
    exact ⟨μ, rfl, rfl, rfl⟩
  | succ t ih =>
    intro f y μ h1 h2 hs
    obtain ⟨f, rfl⟩ : ∃ q, f = q + 1 := ⟨f - 1, by omega⟩
    obtain ⟨μa, a1, a2, a3⟩ := mixM (phG N y) μ
    have a1 : f_X7_mix (nI (ofN N (y / 7) (y % 7))).toInt64 μ = some ((), μa) := a1
    rw [lp_X7_digest_33, hs 0 (by omega), i7, pk_mul, if_neg (by rw [nI_leI (by omega) (by omega)]; omega), pk_rem (by omega) (by omega) (by omega), pk_div (by omega) (by omega) (by omega), ofM hO hB hs (by omega) (by omega), bd_some, a1, bd_some, nI_1]
    obtain ⟨μ2, g1, g2, g3⟩ := ih f (y + 1) μa (by omega) (by omega) (by unfold MR at *; rw [a2]; exact hs)
    exact ⟨μ2, g1, g2.trans a2, by rw [g3, a3]; rfl⟩
theorem dgC55 {B : Nat} {N : Nat → Nat} (hO : Ok B N) {μ : Mm} (hs : SR μ 1 N) (K : Int64 → Mm → Option (Int64 × Mm)) : ∀ (t f i : Nat) (h : Int64), i + t = N 1 → t < f → lp_X4_digestOn_55 f h (nI i) μ K = K (hF (fun y => (nI (N (69 + y))).toInt64) t i h) μ := by
  have h40 := hO.1.2.1
  intro t
  induction t with
  | zero =>
    intro f i h h1 h2
    obtain ⟨f, rfl⟩ : ∃ q, f = q + 1 := ⟨f - 1, by omega⟩
    rw [lp_X4_digestOn_55, hs.lnz, if_pos ((nI_leI (by omega) (by omega)).mpr (by omega))]
    rfl
  | succ t ih =>
    intro f i h h1 h2
    obtain ⟨f, rfl⟩ : ∃ q, f = q + 1 := ⟨f - 1, by omega⟩
    have e : μ.1 7 i = nI (N (69 + i)) := hs.lin (by omega)
    rw [lp_X4_digestOn_55, hs.lnz, if_neg (by rw [nI_leI (by omega) (by omega)]; omega), if_pos (zin_nI (by omega) (by omega)), nI_clamp (by omega), e, nI_1, ih f (i + 1) _ (by omega) (by omega)]
    rfl
theorem dgM71 {B : Nat} {N : Nat → Nat} (hO : Ok B N) (K : Mm → Option (Int64 × Mm)) : ∀ (t f i : Nat) (μ : Mm), i + t = N 1 → t < f → MR μ N → ∃ μ2, lp_X7_digest_71 f (nI i) μ K = K μ2 ∧ μ2.1 = μ.1 ∧ μ2.2 0 22 = hF (fun y => (nI (N (69 + y))).toInt64) t i (μ.2 0 22) := by
  have h40 := hO.1.2.1
  intro t
  induction t with
  | zero =>
    intro f i μ h1 h2 hs
    obtain ⟨f, rfl⟩ : ∃ q, f = q + 1 := ⟨f - 1, by omega⟩
    rw [lp_X7_digest_71, hs 1 (by omega), if_pos ((nI_leI (by omega) (by omega)).mpr (by omega))]
    exact ⟨μ, rfl, rfl, rfl⟩
  | succ t ih =>
    intro f i μ h1 h2 hs
    obtain ⟨f, rfl⟩ : ∃ q, f = q + 1 := ⟨f - 1, by omega⟩
    obtain ⟨μa, a1, a2, a3⟩ := mixM (nI (N (69 + i))).toInt64 μ
    rw [lp_X7_digest_71, hs 1 (by omega), if_neg (by rw [nI_leI (by omega) (by omega)]; omega), i69, nI_add, if_pos (zin_nI (by omega) (by omega)), nI_clamp (by omega), hs (69 + i) (by omega), a1, bd_some, nI_1]
    obtain ⟨μ2, g1, g2, g3⟩ := ih f (i + 1) μa (by omega) (by omega) (by unfold MR at *; rw [a2]; exact hs)
    exact ⟨μ2, g1, g2.trans a2, by rw [g3, a3]; rfl⟩
theorem dgC88 {N : Nat → Nat} {μ : Mm} (hs : SR μ 1 N) (K : Int64 → Mm → Option (Int64 × Mm)) : ∀ (t f i : Nat) (h : Int64), i + t = 40 → t < f → 1 ≤ i → lp_X4_digestOn_88 f h (nI i) μ K = K (hF (fun y => (nI (N (108 + y))).toInt64) t i h) μ := by
  intro t
  induction t with
  | zero =>
    intro f i h h1 h2 h3
    obtain ⟨f, rfl⟩ : ∃ q, f = q + 1 := ⟨f - 1, by omega⟩
    rw [lp_X4_digestOn_88, i40, if_pos ((nI_leI (by omega) (by omega)).mpr (by omega))]
    rfl
  | succ t ih =>
    intro f i h h1 h2 h3
    obtain ⟨f, rfl⟩ : ∃ q, f = q + 1 := ⟨f - 1, by omega⟩
    have e : μ.1 8 i = nI (N (108 + i)) := hs.mar (by omega) (by omega)
    rw [lp_X4_digestOn_88, i40, if_neg (by rw [nI_leI (by omega) (by omega)]; omega), if_pos (zin_nI (by omega) (by omega)), nI_clamp (by omega), e, nI_1, ih f (i + 1) _ (by omega) (by omega) (by omega)]
    rfl
theorem dgM103 {N : Nat → Nat} (K : Mm → Option (Int64 × Mm)) : ∀ (t f i : Nat) (μ : Mm), i + t = 40 → t < f → MR μ N → ∃ μ2, lp_X7_digest_103 f (nI i) μ K = K μ2 ∧ μ2.1 = μ.1 ∧ μ2.2 0 22 = hF (fun y => (nI (N (108 + y))).toInt64) t i (μ.2 0 22) := by
  intro t
  induction t with
  | zero =>
    intro f i μ h1 h2 hs
    obtain ⟨f, rfl⟩ : ∃ q, f = q + 1 := ⟨f - 1, by omega⟩
    rw [lp_X7_digest_103, i40, if_pos ((nI_leI (by omega) (by omega)).mpr (by omega))]
    exact ⟨μ, rfl, rfl, rfl⟩
  | succ t ih =>
    intro f i μ h1 h2 hs
    obtain ⟨f, rfl⟩ : ∃ q, f = q + 1 := ⟨f - 1, by omega⟩
    obtain ⟨μa, a1, a2, a3⟩ := mixM (nI (N (108 + i))).toInt64 μ
    rw [lp_X7_digest_103, i40, if_neg (by rw [nI_leI (by omega) (by omega)]; omega), i108, nI_add, if_pos (zin_nI (by omega) (by omega)), nI_clamp (by omega), hs (108 + i) (by omega), a1, bd_some, nI_1]
    obtain ⟨μ2, g1, g2, g3⟩ := ih f (i + 1) μa (by omega) (by omega) (by unfold MR at *; rw [a2]; exact hs)
    exact ⟨μ2, g1, g2.trans a2, by rw [g3, a3]; rfl⟩
def fxG (N : Nat → Nat) (m s : Nat) : Int64 := (encO (fxC N m s (N 0) 0 none)).toInt64
theorem dgC85 {B : Nat} {N : Nat → Nat} (hO : Ok B N) (hB : B < 2 ^ 31) {μ : Mm} (hs : SR μ 1 N) (K : Int64 → Mm → Option (Int64 × Mm)) {m : Nat} (hm : m < 3) : ∀ (t f i : Nat) (h : Int64), i + t = 4 → t < f → lp_X6_digest_85 (nI m) f h (nI i) μ K = K (hF (fxG N m) t i h) μ := by
  intro t
  induction t with
  | zero =>
    intro f i h h1 h2
    obtain ⟨f, rfl⟩ : ∃ q, f = q + 1 := ⟨f - 1, by omega⟩
    rw [lp_X6_digest_85, i4, if_pos ((nI_leI (by omega) (by omega)).mpr (by omega))]
    rfl
  | succ t ih =>
    intro f i h h1 h2
    obtain ⟨f, rfl⟩ : ∃ q, f = q + 1 := ⟨f - 1, by omega⟩
    rw [lp_X6_digest_85, i4, if_neg (by rw [nI_leI (by omega) (by omega)]; omega), fixC hO hB hs hm (by omega), bd_some, nI_1, ih f (i + 1) _ (by omega) (by omega)]
    rfl
theorem dgM168 {B : Nat} {N : Nat → Nat} (hO : Ok B N) (hB : B < 2 ^ 31) (K : Mm → Option (Int64 × Mm)) {m : Nat} (hm : m < 3) : ∀ (t f i : Nat) (μ : Mm), i + t = 4 → t < f → MR μ N → ∃ μ2, lp_X7_digest_168 (nI m) f (nI i) μ K = K μ2 ∧ μ2.1 = μ.1 ∧ μ2.2 0 22 = hF (fxG N m) t i (μ.2 0 22) := by
  intro t
  induction t with
  | zero =>
    intro f i μ h1 h2 hs
    obtain ⟨f, rfl⟩ : ∃ q, f = q + 1 := ⟨f - 1, by omega⟩
    rw [lp_X7_digest_168, i4, if_pos ((nI_leI (by omega) (by omega)).mpr (by omega))]
    exact ⟨μ, rfl, rfl, rfl⟩
  | succ t ih =>
    intro f i μ h1 h2 hs
    obtain ⟨f, rfl⟩ : ∃ q, f = q + 1 := ⟨f - 1, by omega⟩
    obtain ⟨μa, a1, a2, a3⟩ := mixM (fxG N m i) μ
    have a1 : f_X7_mix (encO (fxC N m i (N 0) 0 none)).toInt64 μ = some ((), μa) := a1
    rw [lp_X7_digest_168, i4, if_neg (by rw [nI_leI (by omega) (by omega)]; omega), fixM hO hB hs hm (by omega), bd_some, a1, bd_some, nI_1]
    obtain ⟨μ2, g1, g2, g3⟩ := ih f (i + 1) μa (by omega) (by omega) (by unfold MR at *; rw [a2]; exact hs)
    exact ⟨μ2, g1, g2.trans a2, by rw [g3, a3]; rfl⟩
theorem madeBoth {B : Nat} {N : Nat → Nat} (hO : Ok B N) (hB : B < 2 ^ 30) {m : Option Nat} (hm : okm m) {μC μM : Mm} (hs : SR μC 1 N) (hsM : MR μM N) : ∃ v μC2 μM2, f_X6_countMade (mk m) μC = some (v, μC2) ∧ f_X7_waysOr 0 (mk m) μM = some (v, μM2) ∧ FrC μC μC2 ∧ FrW μM μM2 := by
  have c := countMadeC hO hB hm hs
  have w := waysM hO hB (cut := false) hm hsM
  by_cases q : AllLe N false m
  · obtain ⟨μC2, c1, c2, -⟩ := c.1 q
    obtain ⟨w0, μM2, w1, -, w3, -⟩ := w.1 q
    exact ⟨_, μC2, μM2, c1, w1, c2, w3⟩
  · obtain ⟨μC2, c1, c2⟩ := c.2 q
    obtain ⟨μM2, w1, w3⟩ := w.2 q
    exact ⟨_, μC2, μM2, c1, w1, c2, w3⟩
theorem cutsBoth {B : Nat} {N : Nat → Nat} (hO : Ok B N) (hB : B < 2 ^ 30) {μC μM : Mm} (hs : SR μC 1 N) (hsM : MR μM N) : ∃ v μC2 μM2, f_X6_countCuts μC = some (v, μC2) ∧ f_X7_waysOr 1 (-1) μM = some (v, μM2) ∧ FrC μC μC2 ∧ FrW μM μM2 := by
  have c := countCutsC hO hB (m := none) (fun z h => by cases h) hs
  have w := waysM hO hB (cut := true) (m := none) (fun z h => by cases h) hsM
  by_cases q : AllLe N true none
  · obtain ⟨μC2, c1, c2⟩ := c.1 q
    obtain ⟨w0, μM2, w1, -, w3, -⟩ := w.1 q
    exact ⟨_, μC2, μM2, c1, w1, c2, w3⟩
  · obtain ⟨μC2, c1, c2⟩ := c.2 q
    obtain ⟨μM2, w1, w3⟩ := w.2 q
    exact ⟨_, μC2, μM2, c1, w1, c2, w3⟩
theorem FrC.sr {μ μ2 : Mm} {N : Nat → Nat} (h : FrC μ μ2) (hs : SR μ 1 N) : SR μ2 1 N := hs.frame (fun a _ ha => h a (by omega))
theorem FrR.mr {μ μ2 : Mm} {N : Nat → Nat} (h : FrR μ μ2) (hs : MR μ N) : MR μ2 N := fun k hk => by rw [h.1 1 (by omega) (by omega)]; exact hs k hk
theorem FrR.of {μ μ2 : Mm} (h : μ2.1 = μ.1) : FrR μ μ2 := ⟨fun _ _ _ => by rw [h], by rw [h], by rw [h]⟩
theorem dgBoth {B : Nat} {N : Nat → Nat} (hO : Ok B N) (hB : B < 2 ^ 30) : ∀ (t fC fM i : Nat) (μC μM : Mm), i + t = 3 → t < fC → t < fM → SR μC 1 N → MR μM N → ∃ r μC2 μM2, lp_X6_digest_65 fC (μM.2 0 22) (nI i) μC (fun x20 μ21 => some (x20, μ21)) = some (r, μC2) ∧ lp_X7_digest_151 fM (nI i) μM (fun μ40 => some (μ40.2 0 22, μ40)) = some (r, μM2) ∧ FrC μC μC2 ∧ FrR μM μM2 := by
  intro t
  induction t with
  | zero =>
    intro fC fM i μC μM h1 h2 h3 hs hsM
    obtain ⟨fC, rfl⟩ : ∃ q, fC = q + 1 := ⟨fC - 1, by omega⟩
    obtain ⟨fM, rfl⟩ : ∃ q, fM = q + 1 := ⟨fM - 1, by omega⟩
    rw [lp_X6_digest_65, lp_X7_digest_151, i3, if_pos ((nI_leI (by omega) (by omega)).mpr (by omega)), if_pos ((nI_leI (by omega) (by omega)).mpr (by omega))]
    exact ⟨_, μC, μM, rfl, rfl, fun _ _ => rfl, FrR.of rfl⟩
  | succ t ih =>
    intro fC fM i μC μM h1 h2 h3 hs hsM
    obtain ⟨fC, rfl⟩ : ∃ q, fC = q + 1 := ⟨fC - 1, by omega⟩
    obtain ⟨fM, rfl⟩ : ∃ q, fM = q + 1 := ⟨fM - 1, by omega⟩
    obtain ⟨v, μC1, μM1, a1, a2, a3, a4⟩ := madeBoth hO hB (okm_some (show i < 3 by omega)) hs hsM
    have a1 : f_X6_countMade (nI i) μC = some (v, μC1) := a1
    have a2 : f_X7_waysOr 0 (nI i) μM = some (v, μM1) := a2
    obtain ⟨μM2, b1, b2, b3⟩ := mixM v μM1
    have sM2 : MR μM2 N := by have := a4.r.mr hsM; unfold MR at *; rw [b2]; exact this
    obtain ⟨μM3, c1, c2, c3⟩ := dgM168 hO (by omega) (fun μ39 => lp_X7_digest_151 fM (nI (i + 1)) μ39 (fun μ40 => some (μ40.2 0 22, μ40))) (show i < 3 by omega) 4 FU 0 μM2 (by omega) (by decide) sM2
    rw [← iz0] at c1
    have d := dgC85 hO (by omega) (a3.sr hs) (fun x18 μ19 => lp_X6_digest_65 fC x18 (nI (i + 1)) μ19 (fun x20 μ21 => some (x20, μ21))) (show i < 3 by omega) 4 FU 0 (((31 : Int64) * (μM.2 0 22)) + v) (by omega) (by decide)
    rw [← iz0] at d
    rw [lp_X6_digest_65, lp_X7_digest_151, i3, if_neg (by rw [nI_leI (by omega) (by omega)]; omega), if_neg (by rw [nI_leI (by omega) (by omega)]; omega), a1, bd_some, a2, bd_some, b1, bd_some, nI_1, c1, d]
    have e22 : μM3.2 0 22 = hF (fxG N i) 4 0 (((31 : Int64) * (μM.2 0 22)) + v) := by rw [c3, b3, a4.2.2 0 (by omega)]
    rw [← e22]
    obtain ⟨r, μC4, μM4, g1, g2, g3, g4⟩ := ih fC fM (i + 1) μC1 μM3 (by omega) (by omega) (by omega) (a3.sr hs) (by unfold MR at *; rw [c2]; exact sM2)
    exact ⟨r, μC4, μM4, g1, g2, a3.trans g3, (a4.r.trans ((FrR.of b2).trans (FrR.of c2))).trans g4⟩
theorem st_digest (n : Nat) (hn : n < 512) : Sp Inv n f_X6_digest f_X7_digest := by
  intro μC μM hI
  obtain ⟨N, hist, st, tx, len, rf, hC, hM, hO, hH, hl, ht⟩ := hI
  have h12 := hO.1.1
  have h40 := hO.1.2.1
  have hs := hC.sr
  -- the class
  have c1 := dgC6 hC (fun x4 μ5 => bd (f_X4_digestOn x4 μ5) fun r6 μ7 => bd (f_X6_countCuts μ7) fun r8 μ9 => bd (f_X6_countMade (-1 : Int32) μ9) fun r10 μ11 => lp_X6_digest_65 FU (((31 : Int64) * (((31 : Int64) * r6) + r8)) + r10) (0 : Int32) μ11 (fun x20 μ21 => some (x20, μ21))) 15 FU 0 2399 (by omega) (by decide)
  rw [← iz0] at c1
  generalize eh1 : hF (fun w => (toldN N st len rf w).toInt64) 15 0 2399 = h1 at c1
  have c2 := dgC5 hO hs (fun x7 μ8 => lp_X4_digestOn_55 FU x7 (0 : Int32) μ8 (fun x10 μ11 => lp_X4_digestOn_88 FU x10 (1 : Int32) μ11 (fun x13 μ14 => some (x13, μ14)))) (N 0) FU 0 h1 (by omega) (by unfold FU; omega)
  rw [← iz0, Nat.mul_zero] at c2
  generalize eh2 : hF (phG N) (7 * N 0) 0 h1 = h2 at c2
  have c3 := dgC55 hO hs (fun x10 μ11 => lp_X4_digestOn_88 FU x10 (1 : Int32) μ11 (fun x13 μ14 => some (x13, μ14))) (N 1) FU 0 h2 (by omega) (by unfold FU; omega)
  rw [← iz0] at c3
  generalize eh3 : hF (fun y => (nI (N (69 + y))).toInt64) (N 1) 0 h2 = h3 at c3
  have c4 := dgC88 hs (fun x13 μ14 => some (x13, μ14)) 39 FU 1 h3 (by omega) (by decide) (by omega)
  rw [← i1] at c4
  generalize eh4 : hF (fun y => (nI (N (108 + y))).toInt64) 39 1 h3 = h4 at c4
  have ed : f_X4_digestOn h1 μC = some (h4, μC) := by rw [f_X4_digestOn, c2, c3, c4]
  -- the reference
  have hM0 : RM N hist st tx len rf (sj μM 0 22 (2399 : Int64)) := hM
  obtain ⟨m1, a1, a2, a3⟩ := dgM9 (fun μ6 => lp_X7_digest_33 FU (0 : Int32) μ6 (fun μ12 => lp_X7_digest_71 FU (0 : Int32) μ12 (fun μ16 => lp_X7_digest_103 FU (1 : Int32) μ16 (fun μ20 => bd (f_X7_waysOr (1 : Int32) (-1 : Int32) μ20) fun r21 μ22 => bd (f_X7_mix r21 μ22) fun r23 μ24 => bd (f_X7_waysOr (0 : Int32) (-1 : Int32) μ24) fun r25 μ26 => bd (f_X7_mix r25 μ26) fun r27 μ28 => lp_X7_digest_151 FU (0 : Int32) μ28 (fun μ40 => some (μ40.2 0 22, μ40)))))) 15 FU 0 (sj μM 0 22 (2399 : Int64)) (by omega) (by decide) hM0
  rw [← iz0] at a1
  rw [sj_rd, if_pos ⟨rfl, rfl⟩, eh1] at a3
  rw [sj_1] at a2
  have s1 : MR m1 N := by unfold MR at *; rw [a2]; exact hM.1
  obtain ⟨m2, b1, b2, b3⟩ := dgM33 hO (by omega) (fun μ12 => lp_X7_digest_71 FU (0 : Int32) μ12 (fun μ16 => lp_X7_digest_103 FU (1 : Int32) μ16 (fun μ20 => bd (f_X7_waysOr (1 : Int32) (-1 : Int32) μ20) fun r21 μ22 => bd (f_X7_mix r21 μ22) fun r23 μ24 => bd (f_X7_waysOr (0 : Int32) (-1 : Int32) μ24) fun r25 μ26 => bd (f_X7_mix r25 μ26) fun r27 μ28 => lp_X7_digest_151 FU (0 : Int32) μ28 (fun μ40 => some (μ40.2 0 22, μ40))))) (7 * N 0) FU 0 m1 (by omega) (by unfold FU; omega) s1
  rw [← iz0] at b1
  rw [a3, eh2] at b3
  have s2 : MR m2 N := by unfold MR at *; rw [b2]; exact s1
  obtain ⟨m3, d1, d2, d3⟩ := dgM71 hO (fun μ16 => lp_X7_digest_103 FU (1 : Int32) μ16 (fun μ20 => bd (f_X7_waysOr (1 : Int32) (-1 : Int32) μ20) fun r21 μ22 => bd (f_X7_mix r21 μ22) fun r23 μ24 => bd (f_X7_waysOr (0 : Int32) (-1 : Int32) μ24) fun r25 μ26 => bd (f_X7_mix r25 μ26) fun r27 μ28 => lp_X7_digest_151 FU (0 : Int32) μ28 (fun μ40 => some (μ40.2 0 22, μ40)))) (N 1) FU 0 m2 (by omega) (by unfold FU; omega) s2
  rw [← iz0] at d1
  rw [b3, eh3] at d3
  have s3 : MR m3 N := by unfold MR at *; rw [d2]; exact s2
  obtain ⟨m4, e1, e2, e3⟩ := dgM103 (fun μ20 => bd (f_X7_waysOr (1 : Int32) (-1 : Int32) μ20) fun r21 μ22 => bd (f_X7_mix r21 μ22) fun r23 μ24 => bd (f_X7_waysOr (0 : Int32) (-1 : Int32) μ24) fun r25 μ26 => bd (f_X7_mix r25 μ26) fun r27 μ28 => lp_X7_digest_151 FU (0 : Int32) μ28 (fun μ40 => some (μ40.2 0 22, μ40))) 39 FU 1 m3 (by omega) (by decide) s3
  rw [← i1] at e1
  rw [d3, eh4] at e3
  have s4 : MR m4 N := by unfold MR at *; rw [e2]; exact s3
  have f4 : FrR μM m4 := FrR.of (by rw [e2, d2, b2, a2])
  -- both
  obtain ⟨v, μC1, m5, g1, g2, g3, g4⟩ := cutsBoth hO (by omega) hs s4
  obtain ⟨m6, k1, k2, k3⟩ := mixM v m5
  have s6 : MR m6 N := by have := g4.r.mr s4; unfold MR at *; rw [k2]; exact this
  obtain ⟨u, μC2, m7, p1, p2, p3, p4⟩ := madeBoth hO (by omega) (m := none) (fun z h => by cases h) (g3.sr hs) s6
  have p1 : f_X6_countMade (-1) μC1 = some (u, μC2) := p1
  have p2 : f_X7_waysOr 0 (-1) m6 = some (u, m7) := p2
  obtain ⟨m8, q1, q2, q3⟩ := mixM u m7
  have s8 : MR m8 N := by have := p4.r.mr s6; unfold MR at *; rw [q2]; exact this
  have e22 : m8.2 0 22 = ((31 : Int64) * (((31 : Int64) * h4) + v)) + u := by rw [q3, p4.2.2 0 (by omega), k3, g4.2.2 0 (by omega), e3]
  obtain ⟨r, μC3, m9, z1, z2, z3, z4⟩ := dgBoth hO (by omega) 3 FU FU 0 μC2 m8 (by omega) (by decide) (by decide) (p3.sr (g3.sr hs)) s8
  rw [← iz0, e22] at z1
  rw [← iz0] at z2
  refine ⟨r, μC3, m9, ?_, ?_, N, hist, st, tx, len, rf, hC.fr (g3.trans (p3.trans z3)), hM.fr (f4.trans (g4.r.trans ((FrR.of k2).trans (p4.r.trans ((FrR.of q2).trans z4))))), hO.mono (by omega), fun j hj => (hH j hj).mono (by omega), hl, ht⟩
  · rw [f_X6_digest, c1, ed, bd_some, g1, bd_some, p1, bd_some, z1]
  · rw [f_X7_digest, a1, b1, d1, e1, g2, bd_some, k1, bd_some, p2, bd_some, q1, bd_some, z2]
