/-! the layout: what each handle is (type code: a class of vwCl 0 .. 12; arrays from 20 on), how long an array is; packed, 5 and 11 bits a handle -/
def tyN_ : Nat := 642047339687725803603905598904452992424823513011314860512083247623244528768522843693889362437551969170851641439967237357172050629048047091067316972892919480888734570309250434893948085359234626503132601550524996174744733340870044246951315382849906937922621049312512822881860083066592652616635434343280446962958255321441603672349128383968707646161094939293681101874953231165082686228413510710745154507679907138628905938904289860211707372199255602854220065119675870729113872049247483233120960352325463229601877509174865380671329327580575021532277376869757780068251598259610884211101438684048944683123328699342047810623719014944494327782390016672073416697624795736924046019915690270819508475390112138596083978765637830333253597704420600555410722610124706361711601823759916528045736859340339054708141990937073176589299713580098288422425496705370395820165949752328505310976013829038749579626410081917372747779760256182166817139998758535717559173480495452520980021083846129572098926614599739538561756406396888688921437647679530453375705503131252239180743787898575798804913876453339568403783489773069858611774128722428746114465262146356525968065576273113322640109774690942150177287332292406855166905650232202167009324982953303049429657903841977287759953312820787423053105058295529239917341612812551390393636620117178701183
def lnN_ : Nat := 4255416217580043802769581836935525369288409835920024603170697752023262246602621777999098831880099157934755479128260938738603342580131240598425167873504453603095525036236459084605505035953177827276162492381073122910717456560716189779449361687139470430409450585957955968302988285955604814018201001513071308321373841031609589343538929691415849709800626386325579526197964006804508980355077169365138366760165943851712752855607115241102434580970246600540571390422881291713347058999489030991231929096188894121930946772389410625816774267612077338929291140389681355040268612549352969440614102967576020866168093598702848683150760875960478229180229533294777737658877437553462880529915160982377952866531918979781387382382392252576104809413011667151245410152838565507066137348603459347178212605413361868818959894295156906496166743752805556613528318933352350204087310671421676857226362688000420978648827633277927377405896055405047221367839868759890277087323662057616109188721052563070106403815953906580039664586888670316287293139488450082440245719248101670922408895375764250676649401099201303867141936025450031547144433945167468895193247474712650097701511729136523534056329858926744186542056239280711885669206565050724352720099263724680826113318601292667895594554338093233884149164155881612932465693564932127543290508545694379703850307560541508431062139018144998258433968540261605900881780718326302063125515533971776559502892602855485921391084967329436768966095486259568525644123865476031296311179401466519820037041938268475001613509050212580070299386580633158815830555019526896484548272051666369359848700006986841364268281381585913403784795416574809774059666807396699624878723737881004737090896979408275889498970916427962652342060431889488303746808164919898329268204935631071826600840691013177549259089699839976224197174296614100214345595720240175518308608953218681433967037430920840539699419304163728063368340347641319645624959702200933089127253669180554211927279501379324868779695888423823211259034302171052177050915011695025274712543984497630971950630788927326506067406490612129358394034313672902095081975930233404667258959272684035686656797494506684126748121465852151568540311648844861764684972332943304430829307066569099342410676235162447529019475231527347163888582171305003023035437547951268519654197323052778494939399268256212498640543099591750186146461410703738234296421003677796519598795828084733576647736192170722623817595350883716700094286647366643979465218085719462212922484383289789658609287112856329906607481334779139136728941506198643021843713029032900853005922130611020174834265205203739972911339205274836256693737147167435821245352416190404315814665213615657191459478158013888806032300682181716033247432091645858930547960370130282072294153995689450163072780111463166243370381625545173854125074310251929589705028660151250723889900463337127488981567771334722367620937089852920967722958848
def TOT_ : Int := 873
def PA_ : Int := 12
def PB_ : Int := 76
def tyq_ (n : Nat) : Nat := (tyN_ >>> (5 * n)) % 32
def lnq_ (n : Nat) : Nat := (lnN_ >>> (11 * n)) % 2048
def ty_ (a : Int) : Nat := tyq_ a.toNat
def ln_ (a : Int) : Nat := lnq_ a.toNat
def ft_ (ci k : Nat) : FieldType := match ci with
  | 0 => tyX0 k
  | 1 => tyX1 k
  | 2 => tyX2 k
  | 3 => tyX3 k
  | 4 => tyX4 k
  | 5 => tyX5 k
  | 6 => tyX6 k
  | 7 => tyX7 k
  | 8 => tyX8 k
  | 9 => tyX9 k
  | 10 => tyX10 k
  | 11 => tyX11 k
  | _ => tyX12 k
def nf_ (ci : Nat) : Nat := match ci with
  | 0 => 5
  | 1 => 11
  | 2 => 6
  | 3 => 10
  | 4 => 7
  | 5 => 8
  | 6 => 14
  | 7 => 1
  | 8 => 4
  | 9 => 5
  | 10 => 18
  | 11 => 14
  | _ => 82
def at_ (k : Nat) : FieldType := match k with
  | 0 => .int
  | 1 => .byte
  | 2 => .long
  | 3 => .boolean
  | 4 => .array .int
  | 5 => .object "TraceDesk$Step"
  | 6 => .object "TraceDesk$Item"
  | _ => .object "TraceDesk$Trace"
def kd_ (t : FieldType) : Nat := match t with
  | .long => 1
  | .object _ => 2
  | .array _ => 2
  | _ => 0
/-- the static references: what stands in a slot of a handle of that kind (and length), as an offset from the handle -/
def ofO_ (c k : Nat) : Option Int := match c, k with
  | 0, 0 => some 1
  | 0, 1 => some 42
  | 0, 2 => some 46
  | 1, 0 => some 1
  | 2, 0 => some 1
  | 2, 1 => some 2
  | 2, 2 => some 3
  | 2, 3 => some 4
  | 2, 4 => some 5
  | 3, 0 => some 1
  | 3, 1 => some 6
  | 3, 2 => some 7
  | 3, 3 => some 8
  | 4, 2 => some 1
  | 4, 3 => some 2
  | 4, 4 => some 3
  | 4, 5 => some 4
  | 4, 6 => some 5
  | 5, 1 => some 1
  | 5, 2 => some 2
  | 5, 3 => some 3
  | 5, 4 => some 4
  | 5, 5 => some 5
  | 5, 6 => some 6
  | 5, 7 => some 7
  | 6, 0 => some 1
  | 6, 1 => some 2
  | 6, 2 => some 3
  | 6, 3 => some 4
  | 6, 12 => some 5
  | 6, 13 => some 6
  | 7, 0 => some 1
  | 9, 0 => some 1
  | 9, 1 => some 2
  | 9, 2 => some 3
  | 9, 3 => some 4
  | 10, 0 => some 1
  | 10, 2 => some 2
  | 10, 12 => some 3
  | 10, 13 => some 4
  | 10, 14 => some 5
  | 10, 15 => some 6
  | 11, 0 => some 1
  | 11, 3 => some 2
  | 11, 6 => some 139
  | 11, 7 => some 141
  | 11, 8 => some 188
  | 11, 9 => some 799
  | 11, 10 => some 806
  | 12, 1 => some 1
  | 12, 3 => some 2
  | 12, 5 => some 3
  | 12, 6 => some 4
  | 12, 7 => some 5
  | 12, 8 => some 6
  | 12, 9 => some 7
  | 12, 21 => some 8
  | 12, 22 => some 9
  | 12, 23 => some 10
  | 12, 24 => some 11
  | 12, 25 => some 12
  | 12, 26 => some 13
  | 12, 27 => some 14
  | 12, 28 => some 15
  | 12, 29 => some 16
  | 12, 30 => some 17
  | 12, 31 => some 18
  | 12, 32 => some 19
  | 12, 33 => some 20
  | 12, 34 => some 21
  | 12, 35 => some 22
  | 12, 36 => some 23
  | 12, 37 => some 24
  | 12, 38 => some 25
  | 12, 39 => some 26
  | 12, 43 => some 27
  | 12, 44 => some 28
  | 12, 47 => some 29
  | 12, 48 => some 30
  | 12, 49 => some 31
  | 12, 50 => some 32
  | 12, 51 => some 33
  | 12, 53 => some 34
  | 12, 54 => some 35
  | 12, 55 => some 36
  | 12, 56 => some 37
  | 12, 57 => some 38
  | 12, 58 => some 39
  | 12, 59 => some 40
  | 12, 60 => some 41
  | 12, 61 => some 42
  | 12, 62 => some 43
  | 12, 63 => some 44
  | 12, 64 => some 45
  | 12, 65 => some 46
  | 12, 66 => some 47
  | 12, 67 => some 48
  | 12, 68 => some 49
  | 12, 70 => some 50
  | 12, 71 => some 51
  | 12, 72 => some 52
  | 12, 73 => some 53
  | 12, 74 => some 54
  | 12, 78 => some 55
  | 12, 79 => some 56
  | 12, 80 => some 57
  | 12, 81 => some 58
  | _, _ => none
def ofA_ (t n k : Nat) : Option Int :=
  if n ≤ k then none
  else if t = 25 then (if n = 48 then some (6 + 1 * (k : Int)) else some (53 + 1 * (k : Int)))
  else if t = 26 then some (5 + 2 * (k : Int))
  else if t = 27 then some (10 + 75 * (k : Int))
  else if t = 24 then some (1 + 1 * (k : Int))
  else none
def of_ (t n k : Nat) : Option Int := if t < 20 then ofO_ t k else ofA_ t n k
/-- D: handles whose static references stand; closed -/
def Cl_ (D : Int → Prop) (sz : Int) : Prop := ∀ a, D a → 0 < a ∧ a < sz ∧ a < TOT_ ∧ ∀ k o, of_ (ty_ a) (ln_ a) k = some o → D (a + o)
def Pg_ (D : Int → Prop) : Prop := D PA_ ∧ D PB_
theorem nat_of {a : Int} (h : 0 < a) : ∃ n : Nat, a = (n : Int) := ⟨a.toNat, by omega⟩
theorem lq0_0 : ∀ n : Nat, n < 873 → tyq_ n = 0 → (tyq_ (n + 1) = 24 ∧ lnq_ (n + 1) = 40) ∧ (tyq_ (n + 42) = 24 ∧ lnq_ (n + 42) = 3) ∧ (tyq_ (n + 46) = 23 ∧ lnq_ (n + 46) = 3) := by decide +kernel
theorem fX0_0 {D : Int → Prop} {sz h : Int} (hC : Cl_ D sz) (hD : D h) (ht : ty_ h = 0) : D (h + 1) ∧ ty_ (h + 1) = 24 ∧ ln_ (h + 1) = 40 := by
  obtain ⟨h1, h2, h3, h4⟩ := hC h hD
  obtain ⟨n, rfl⟩ := nat_of h1
  have q := (lq0_0 n (by unfold TOT_ at h3; omega) ht).1
  exact ⟨h4 0 1 (by rw [ht]; rfl), q.1, q.2⟩
theorem fX0_1 {D : Int → Prop} {sz h : Int} (hC : Cl_ D sz) (hD : D h) (ht : ty_ h = 0) : D (h + 42) ∧ ty_ (h + 42) = 24 ∧ ln_ (h + 42) = 3 := by
  obtain ⟨h1, h2, h3, h4⟩ := hC h hD
  obtain ⟨n, rfl⟩ := nat_of h1
  have q := (lq0_0 n (by unfold TOT_ at h3; omega) ht).2.1
  exact ⟨h4 1 42 (by rw [ht]; rfl), q.1, q.2⟩
theorem fX0_2 {D : Int → Prop} {sz h : Int} (hC : Cl_ D sz) (hD : D h) (ht : ty_ h = 0) : D (h + 46) ∧ ty_ (h + 46) = 23 ∧ ln_ (h + 46) = 3 := by
  obtain ⟨h1, h2, h3, h4⟩ := hC h hD
  obtain ⟨n, rfl⟩ := nat_of h1
  have q := (lq0_0 n (by unfold TOT_ at h3; omega) ht).2.2
  exact ⟨h4 2 46 (by rw [ht]; rfl), q.1, q.2⟩
theorem lq1_0 : ∀ n : Nat, n < 873 → tyq_ n = 1 → (tyq_ (n + 1) = 8 ∧ lnq_ (n + 1) = 0) := by decide +kernel
theorem fX1_0 {D : Int → Prop} {sz h : Int} (hC : Cl_ D sz) (hD : D h) (ht : ty_ h = 1) : D (h + 1) ∧ ty_ (h + 1) = 8 ∧ ln_ (h + 1) = 0 := by
  obtain ⟨h1, h2, h3, h4⟩ := hC h hD
  obtain ⟨n, rfl⟩ := nat_of h1
  have q := (lq1_0 n (by unfold TOT_ at h3; omega) ht)
  exact ⟨h4 0 1 (by rw [ht]; rfl), q.1, q.2⟩
theorem lq2_0 : ∀ n : Nat, n < 873 → tyq_ n = 2 → (tyq_ (n + 1) = 20 ∧ lnq_ (n + 1) = 34) ∧ (tyq_ (n + 2) = 20 ∧ lnq_ (n + 2) = 34) ∧ (tyq_ (n + 3) = 20 ∧ lnq_ (n + 3) = 34) ∧ (tyq_ (n + 4) = 20 ∧ lnq_ (n + 4) = 34) ∧ (tyq_ (n + 5) = 20 ∧ lnq_ (n + 5) = 4) := by decide +kernel
theorem fX2_0 {D : Int → Prop} {sz h : Int} (hC : Cl_ D sz) (hD : D h) (ht : ty_ h = 2) : D (h + 1) ∧ ty_ (h + 1) = 20 ∧ ln_ (h + 1) = 34 := by
  obtain ⟨h1, h2, h3, h4⟩ := hC h hD
  obtain ⟨n, rfl⟩ := nat_of h1
  have q := (lq2_0 n (by unfold TOT_ at h3; omega) ht).1
  exact ⟨h4 0 1 (by rw [ht]; rfl), q.1, q.2⟩
theorem fX2_1 {D : Int → Prop} {sz h : Int} (hC : Cl_ D sz) (hD : D h) (ht : ty_ h = 2) : D (h + 2) ∧ ty_ (h + 2) = 20 ∧ ln_ (h + 2) = 34 := by
  obtain ⟨h1, h2, h3, h4⟩ := hC h hD
  obtain ⟨n, rfl⟩ := nat_of h1
  have q := (lq2_0 n (by unfold TOT_ at h3; omega) ht).2.1
  exact ⟨h4 1 2 (by rw [ht]; rfl), q.1, q.2⟩
theorem fX2_2 {D : Int → Prop} {sz h : Int} (hC : Cl_ D sz) (hD : D h) (ht : ty_ h = 2) : D (h + 3) ∧ ty_ (h + 3) = 20 ∧ ln_ (h + 3) = 34 := by
  obtain ⟨h1, h2, h3, h4⟩ := hC h hD
  obtain ⟨n, rfl⟩ := nat_of h1
  have q := (lq2_0 n (by unfold TOT_ at h3; omega) ht).2.2.1
  exact ⟨h4 2 3 (by rw [ht]; rfl), q.1, q.2⟩
theorem fX2_3 {D : Int → Prop} {sz h : Int} (hC : Cl_ D sz) (hD : D h) (ht : ty_ h = 2) : D (h + 4) ∧ ty_ (h + 4) = 20 ∧ ln_ (h + 4) = 34 := by
  obtain ⟨h1, h2, h3, h4⟩ := hC h hD
  obtain ⟨n, rfl⟩ := nat_of h1
  have q := (lq2_0 n (by unfold TOT_ at h3; omega) ht).2.2.2.1
  exact ⟨h4 3 4 (by rw [ht]; rfl), q.1, q.2⟩
theorem fX2_4 {D : Int → Prop} {sz h : Int} (hC : Cl_ D sz) (hD : D h) (ht : ty_ h = 2) : D (h + 5) ∧ ty_ (h + 5) = 20 ∧ ln_ (h + 5) = 4 := by
  obtain ⟨h1, h2, h3, h4⟩ := hC h hD
  obtain ⟨n, rfl⟩ := nat_of h1
  have q := (lq2_0 n (by unfold TOT_ at h3; omega) ht).2.2.2.2
  exact ⟨h4 4 5 (by rw [ht]; rfl), q.1, q.2⟩
theorem lq3_0 : ∀ n : Nat, n < 873 → tyq_ n = 3 → (tyq_ (n + 1) = 9 ∧ lnq_ (n + 1) = 0) ∧ (tyq_ (n + 6) = 22 ∧ lnq_ (n + 6) = 8) ∧ (tyq_ (n + 7) = 22 ∧ lnq_ (n + 7) = 16) ∧ (tyq_ (n + 8) = 20 ∧ lnq_ (n + 8) = 16) := by decide +kernel
theorem fX3_0 {D : Int → Prop} {sz h : Int} (hC : Cl_ D sz) (hD : D h) (ht : ty_ h = 3) : D (h + 1) ∧ ty_ (h + 1) = 9 ∧ ln_ (h + 1) = 0 := by
  obtain ⟨h1, h2, h3, h4⟩ := hC h hD
  obtain ⟨n, rfl⟩ := nat_of h1
  have q := (lq3_0 n (by unfold TOT_ at h3; omega) ht).1
  exact ⟨h4 0 1 (by rw [ht]; rfl), q.1, q.2⟩
theorem fX3_1 {D : Int → Prop} {sz h : Int} (hC : Cl_ D sz) (hD : D h) (ht : ty_ h = 3) : D (h + 6) ∧ ty_ (h + 6) = 22 ∧ ln_ (h + 6) = 8 := by
  obtain ⟨h1, h2, h3, h4⟩ := hC h hD
  obtain ⟨n, rfl⟩ := nat_of h1
  have q := (lq3_0 n (by unfold TOT_ at h3; omega) ht).2.1
  exact ⟨h4 1 6 (by rw [ht]; rfl), q.1, q.2⟩
theorem fX3_2 {D : Int → Prop} {sz h : Int} (hC : Cl_ D sz) (hD : D h) (ht : ty_ h = 3) : D (h + 7) ∧ ty_ (h + 7) = 22 ∧ ln_ (h + 7) = 16 := by
  obtain ⟨h1, h2, h3, h4⟩ := hC h hD
  obtain ⟨n, rfl⟩ := nat_of h1
  have q := (lq3_0 n (by unfold TOT_ at h3; omega) ht).2.2.1
  exact ⟨h4 2 7 (by rw [ht]; rfl), q.1, q.2⟩
theorem fX3_3 {D : Int → Prop} {sz h : Int} (hC : Cl_ D sz) (hD : D h) (ht : ty_ h = 3) : D (h + 8) ∧ ty_ (h + 8) = 20 ∧ ln_ (h + 8) = 16 := by
  obtain ⟨h1, h2, h3, h4⟩ := hC h hD
  obtain ⟨n, rfl⟩ := nat_of h1
  have q := (lq3_0 n (by unfold TOT_ at h3; omega) ht).2.2.2
  exact ⟨h4 3 8 (by rw [ht]; rfl), q.1, q.2⟩
theorem lq4_0 : ∀ n : Nat, n < 873 → tyq_ n = 4 → (tyq_ (n + 1) = 27 ∧ lnq_ (n + 1) = 8) ∧ (tyq_ (n + 2) = 20 ∧ lnq_ (n + 2) = 8) ∧ (tyq_ (n + 3) = 20 ∧ lnq_ (n + 3) = 8) ∧ (tyq_ (n + 4) = 20 ∧ lnq_ (n + 4) = 4) ∧ (tyq_ (n + 5) = 2 ∧ lnq_ (n + 5) = 0) := by decide +kernel
theorem fX4_2 {D : Int → Prop} {sz h : Int} (hC : Cl_ D sz) (hD : D h) (ht : ty_ h = 4) : D (h + 1) ∧ ty_ (h + 1) = 27 ∧ ln_ (h + 1) = 8 := by
  obtain ⟨h1, h2, h3, h4⟩ := hC h hD
  obtain ⟨n, rfl⟩ := nat_of h1
  have q := (lq4_0 n (by unfold TOT_ at h3; omega) ht).1
  exact ⟨h4 2 1 (by rw [ht]; rfl), q.1, q.2⟩
theorem fX4_3 {D : Int → Prop} {sz h : Int} (hC : Cl_ D sz) (hD : D h) (ht : ty_ h = 4) : D (h + 2) ∧ ty_ (h + 2) = 20 ∧ ln_ (h + 2) = 8 := by
  obtain ⟨h1, h2, h3, h4⟩ := hC h hD
  obtain ⟨n, rfl⟩ := nat_of h1
  have q := (lq4_0 n (by unfold TOT_ at h3; omega) ht).2.1
  exact ⟨h4 3 2 (by rw [ht]; rfl), q.1, q.2⟩
theorem fX4_4 {D : Int → Prop} {sz h : Int} (hC : Cl_ D sz) (hD : D h) (ht : ty_ h = 4) : D (h + 3) ∧ ty_ (h + 3) = 20 ∧ ln_ (h + 3) = 8 := by
  obtain ⟨h1, h2, h3, h4⟩ := hC h hD
  obtain ⟨n, rfl⟩ := nat_of h1
  have q := (lq4_0 n (by unfold TOT_ at h3; omega) ht).2.2.1
  exact ⟨h4 4 3 (by rw [ht]; rfl), q.1, q.2⟩
theorem fX4_5 {D : Int → Prop} {sz h : Int} (hC : Cl_ D sz) (hD : D h) (ht : ty_ h = 4) : D (h + 4) ∧ ty_ (h + 4) = 20 ∧ ln_ (h + 4) = 4 := by
  obtain ⟨h1, h2, h3, h4⟩ := hC h hD
  obtain ⟨n, rfl⟩ := nat_of h1
  have q := (lq4_0 n (by unfold TOT_ at h3; omega) ht).2.2.2.1
  exact ⟨h4 5 4 (by rw [ht]; rfl), q.1, q.2⟩
theorem fX4_6 {D : Int → Prop} {sz h : Int} (hC : Cl_ D sz) (hD : D h) (ht : ty_ h = 4) : D (h + 5) ∧ ty_ (h + 5) = 2 ∧ ln_ (h + 5) = 0 := by
  obtain ⟨h1, h2, h3, h4⟩ := hC h hD
  obtain ⟨n, rfl⟩ := nat_of h1
  have q := (lq4_0 n (by unfold TOT_ at h3; omega) ht).2.2.2.2
  exact ⟨h4 6 5 (by rw [ht]; rfl), q.1, q.2⟩
theorem lq5_0 : ∀ n : Nat, n < 873 → tyq_ n = 5 → (tyq_ (n + 1) = 20 ∧ lnq_ (n + 1) = 8) ∧ (tyq_ (n + 2) = 25 ∧ lnq_ (n + 2) = 48) ∧ (tyq_ (n + 3) = 25 ∧ lnq_ (n + 3) = 8) ∧ (tyq_ (n + 4) = 20 ∧ lnq_ (n + 4) = 16) ∧ (tyq_ (n + 5) = 20 ∧ lnq_ (n + 5) = 8) ∧ (tyq_ (n + 6) = 20 ∧ lnq_ (n + 6) = 4) := by decide +kernel
theorem fX5_1 {D : Int → Prop} {sz h : Int} (hC : Cl_ D sz) (hD : D h) (ht : ty_ h = 5) : D (h + 1) ∧ ty_ (h + 1) = 20 ∧ ln_ (h + 1) = 8 := by
  obtain ⟨h1, h2, h3, h4⟩ := hC h hD
  obtain ⟨n, rfl⟩ := nat_of h1
  have q := (lq5_0 n (by unfold TOT_ at h3; omega) ht).1
  exact ⟨h4 1 1 (by rw [ht]; rfl), q.1, q.2⟩
theorem fX5_2 {D : Int → Prop} {sz h : Int} (hC : Cl_ D sz) (hD : D h) (ht : ty_ h = 5) : D (h + 2) ∧ ty_ (h + 2) = 25 ∧ ln_ (h + 2) = 48 := by
  obtain ⟨h1, h2, h3, h4⟩ := hC h hD
  obtain ⟨n, rfl⟩ := nat_of h1
  have q := (lq5_0 n (by unfold TOT_ at h3; omega) ht).2.1
  exact ⟨h4 2 2 (by rw [ht]; rfl), q.1, q.2⟩
theorem fX5_3 {D : Int → Prop} {sz h : Int} (hC : Cl_ D sz) (hD : D h) (ht : ty_ h = 5) : D (h + 3) ∧ ty_ (h + 3) = 25 ∧ ln_ (h + 3) = 8 := by
  obtain ⟨h1, h2, h3, h4⟩ := hC h hD
  obtain ⟨n, rfl⟩ := nat_of h1
  have q := (lq5_0 n (by unfold TOT_ at h3; omega) ht).2.2.1
  exact ⟨h4 3 3 (by rw [ht]; rfl), q.1, q.2⟩
theorem fX5_4 {D : Int → Prop} {sz h : Int} (hC : Cl_ D sz) (hD : D h) (ht : ty_ h = 5) : D (h + 4) ∧ ty_ (h + 4) = 20 ∧ ln_ (h + 4) = 16 := by
  obtain ⟨h1, h2, h3, h4⟩ := hC h hD
  obtain ⟨n, rfl⟩ := nat_of h1
  have q := (lq5_0 n (by unfold TOT_ at h3; omega) ht).2.2.2.1
  exact ⟨h4 4 4 (by rw [ht]; rfl), q.1, q.2⟩
theorem fX5_5 {D : Int → Prop} {sz h : Int} (hC : Cl_ D sz) (hD : D h) (ht : ty_ h = 5) : D (h + 5) ∧ ty_ (h + 5) = 20 ∧ ln_ (h + 5) = 8 := by
  obtain ⟨h1, h2, h3, h4⟩ := hC h hD
  obtain ⟨n, rfl⟩ := nat_of h1
  have q := (lq5_0 n (by unfold TOT_ at h3; omega) ht).2.2.2.2.1
  exact ⟨h4 5 5 (by rw [ht]; rfl), q.1, q.2⟩
theorem fX5_6 {D : Int → Prop} {sz h : Int} (hC : Cl_ D sz) (hD : D h) (ht : ty_ h = 5) : D (h + 6) ∧ ty_ (h + 6) = 20 ∧ ln_ (h + 6) = 4 := by
  obtain ⟨h1, h2, h3, h4⟩ := hC h hD
  obtain ⟨n, rfl⟩ := nat_of h1
  have q := (lq5_0 n (by unfold TOT_ at h3; omega) ht).2.2.2.2.2
  exact ⟨h4 6 6 (by rw [ht]; rfl), q.1, q.2⟩
theorem lq5_1 : ∀ n : Nat, n < 873 → tyq_ n = 5 → (tyq_ (n + 7) = 20 ∧ lnq_ (n + 7) = 4) := by decide +kernel
theorem fX5_7 {D : Int → Prop} {sz h : Int} (hC : Cl_ D sz) (hD : D h) (ht : ty_ h = 5) : D (h + 7) ∧ ty_ (h + 7) = 20 ∧ ln_ (h + 7) = 4 := by
  obtain ⟨h1, h2, h3, h4⟩ := hC h hD
  obtain ⟨n, rfl⟩ := nat_of h1
  have q := (lq5_1 n (by unfold TOT_ at h3; omega) ht)
  exact ⟨h4 7 7 (by rw [ht]; rfl), q.1, q.2⟩
theorem lq6_0 : ∀ n : Nat, n < 873 → tyq_ n = 6 → (tyq_ (n + 1) = 20 ∧ lnq_ (n + 1) = 12) ∧ (tyq_ (n + 2) = 20 ∧ lnq_ (n + 2) = 8) ∧ (tyq_ (n + 3) = 20 ∧ lnq_ (n + 3) = 8) ∧ (tyq_ (n + 4) = 20 ∧ lnq_ (n + 4) = 16) ∧ (tyq_ (n + 5) = 20 ∧ lnq_ (n + 5) = 34) ∧ (tyq_ (n + 6) = 20 ∧ lnq_ (n + 6) = 34) := by decide +kernel
theorem fX6_0 {D : Int → Prop} {sz h : Int} (hC : Cl_ D sz) (hD : D h) (ht : ty_ h = 6) : D (h + 1) ∧ ty_ (h + 1) = 20 ∧ ln_ (h + 1) = 12 := by
  obtain ⟨h1, h2, h3, h4⟩ := hC h hD
  obtain ⟨n, rfl⟩ := nat_of h1
  have q := (lq6_0 n (by unfold TOT_ at h3; omega) ht).1
  exact ⟨h4 0 1 (by rw [ht]; rfl), q.1, q.2⟩
theorem fX6_1 {D : Int → Prop} {sz h : Int} (hC : Cl_ D sz) (hD : D h) (ht : ty_ h = 6) : D (h + 2) ∧ ty_ (h + 2) = 20 ∧ ln_ (h + 2) = 8 := by
  obtain ⟨h1, h2, h3, h4⟩ := hC h hD
  obtain ⟨n, rfl⟩ := nat_of h1
  have q := (lq6_0 n (by unfold TOT_ at h3; omega) ht).2.1
  exact ⟨h4 1 2 (by rw [ht]; rfl), q.1, q.2⟩
theorem fX6_2 {D : Int → Prop} {sz h : Int} (hC : Cl_ D sz) (hD : D h) (ht : ty_ h = 6) : D (h + 3) ∧ ty_ (h + 3) = 20 ∧ ln_ (h + 3) = 8 := by
  obtain ⟨h1, h2, h3, h4⟩ := hC h hD
  obtain ⟨n, rfl⟩ := nat_of h1
  have q := (lq6_0 n (by unfold TOT_ at h3; omega) ht).2.2.1
  exact ⟨h4 2 3 (by rw [ht]; rfl), q.1, q.2⟩
theorem fX6_3 {D : Int → Prop} {sz h : Int} (hC : Cl_ D sz) (hD : D h) (ht : ty_ h = 6) : D (h + 4) ∧ ty_ (h + 4) = 20 ∧ ln_ (h + 4) = 16 := by
  obtain ⟨h1, h2, h3, h4⟩ := hC h hD
  obtain ⟨n, rfl⟩ := nat_of h1
  have q := (lq6_0 n (by unfold TOT_ at h3; omega) ht).2.2.2.1
  exact ⟨h4 3 4 (by rw [ht]; rfl), q.1, q.2⟩
theorem fX6_12 {D : Int → Prop} {sz h : Int} (hC : Cl_ D sz) (hD : D h) (ht : ty_ h = 6) : D (h + 5) ∧ ty_ (h + 5) = 20 ∧ ln_ (h + 5) = 34 := by
  obtain ⟨h1, h2, h3, h4⟩ := hC h hD
  obtain ⟨n, rfl⟩ := nat_of h1
  have q := (lq6_0 n (by unfold TOT_ at h3; omega) ht).2.2.2.2.1
  exact ⟨h4 12 5 (by rw [ht]; rfl), q.1, q.2⟩
theorem fX6_13 {D : Int → Prop} {sz h : Int} (hC : Cl_ D sz) (hD : D h) (ht : ty_ h = 6) : D (h + 6) ∧ ty_ (h + 6) = 20 ∧ ln_ (h + 6) = 34 := by
  obtain ⟨h1, h2, h3, h4⟩ := hC h hD
  obtain ⟨n, rfl⟩ := nat_of h1
  have q := (lq6_0 n (by unfold TOT_ at h3; omega) ht).2.2.2.2.2
  exact ⟨h4 13 6 (by rw [ht]; rfl), q.1, q.2⟩
theorem lq7_0 : ∀ n : Nat, n < 873 → tyq_ n = 7 → (tyq_ (n + 1) = 20 ∧ lnq_ (n + 1) = 47) := by decide +kernel
theorem fX7_0 {D : Int → Prop} {sz h : Int} (hC : Cl_ D sz) (hD : D h) (ht : ty_ h = 7) : D (h + 1) ∧ ty_ (h + 1) = 20 ∧ ln_ (h + 1) = 47 := by
  obtain ⟨h1, h2, h3, h4⟩ := hC h hD
  obtain ⟨n, rfl⟩ := nat_of h1
  have q := (lq7_0 n (by unfold TOT_ at h3; omega) ht)
  exact ⟨h4 0 1 (by rw [ht]; rfl), q.1, q.2⟩
theorem lq9_0 : ∀ n : Nat, n < 873 → tyq_ n = 9 → (tyq_ (n + 1) = 22 ∧ lnq_ (n + 1) = 17) ∧ (tyq_ (n + 2) = 20 ∧ lnq_ (n + 2) = 402) ∧ (tyq_ (n + 3) = 20 ∧ lnq_ (n + 3) = 402) ∧ (tyq_ (n + 4) = 22 ∧ lnq_ (n + 4) = 402) := by decide +kernel
theorem fX9_0 {D : Int → Prop} {sz h : Int} (hC : Cl_ D sz) (hD : D h) (ht : ty_ h = 9) : D (h + 1) ∧ ty_ (h + 1) = 22 ∧ ln_ (h + 1) = 17 := by
  obtain ⟨h1, h2, h3, h4⟩ := hC h hD
  obtain ⟨n, rfl⟩ := nat_of h1
  have q := (lq9_0 n (by unfold TOT_ at h3; omega) ht).1
  exact ⟨h4 0 1 (by rw [ht]; rfl), q.1, q.2⟩
theorem fX9_1 {D : Int → Prop} {sz h : Int} (hC : Cl_ D sz) (hD : D h) (ht : ty_ h = 9) : D (h + 2) ∧ ty_ (h + 2) = 20 ∧ ln_ (h + 2) = 402 := by
  obtain ⟨h1, h2, h3, h4⟩ := hC h hD
  obtain ⟨n, rfl⟩ := nat_of h1
  have q := (lq9_0 n (by unfold TOT_ at h3; omega) ht).2.1
  exact ⟨h4 1 2 (by rw [ht]; rfl), q.1, q.2⟩
theorem fX9_2 {D : Int → Prop} {sz h : Int} (hC : Cl_ D sz) (hD : D h) (ht : ty_ h = 9) : D (h + 3) ∧ ty_ (h + 3) = 20 ∧ ln_ (h + 3) = 402 := by
  obtain ⟨h1, h2, h3, h4⟩ := hC h hD
  obtain ⟨n, rfl⟩ := nat_of h1
  have q := (lq9_0 n (by unfold TOT_ at h3; omega) ht).2.2.1
  exact ⟨h4 2 3 (by rw [ht]; rfl), q.1, q.2⟩
theorem fX9_3 {D : Int → Prop} {sz h : Int} (hC : Cl_ D sz) (hD : D h) (ht : ty_ h = 9) : D (h + 4) ∧ ty_ (h + 4) = 22 ∧ ln_ (h + 4) = 402 := by
  obtain ⟨h1, h2, h3, h4⟩ := hC h hD
  obtain ⟨n, rfl⟩ := nat_of h1
  have q := (lq9_0 n (by unfold TOT_ at h3; omega) ht).2.2.2
  exact ⟨h4 3 4 (by rw [ht]; rfl), q.1, q.2⟩
theorem lq10_0 : ∀ n : Nat, n < 873 → tyq_ n = 10 → (tyq_ (n + 1) = 20 ∧ lnq_ (n + 1) = 4) ∧ (tyq_ (n + 2) = 26 ∧ lnq_ (n + 2) = 34) ∧ (tyq_ (n + 3) = 20 ∧ lnq_ (n + 3) = 34) ∧ (tyq_ (n + 4) = 20 ∧ lnq_ (n + 4) = 1156) ∧ (tyq_ (n + 5) = 20 ∧ lnq_ (n + 5) = 6) ∧ (tyq_ (n + 6) = 20 ∧ lnq_ (n + 6) = 12) := by decide +kernel
theorem fX10_0 {D : Int → Prop} {sz h : Int} (hC : Cl_ D sz) (hD : D h) (ht : ty_ h = 10) : D (h + 1) ∧ ty_ (h + 1) = 20 ∧ ln_ (h + 1) = 4 := by
  obtain ⟨h1, h2, h3, h4⟩ := hC h hD
  obtain ⟨n, rfl⟩ := nat_of h1
  have q := (lq10_0 n (by unfold TOT_ at h3; omega) ht).1
  exact ⟨h4 0 1 (by rw [ht]; rfl), q.1, q.2⟩
theorem fX10_2 {D : Int → Prop} {sz h : Int} (hC : Cl_ D sz) (hD : D h) (ht : ty_ h = 10) : D (h + 2) ∧ ty_ (h + 2) = 26 ∧ ln_ (h + 2) = 34 := by
  obtain ⟨h1, h2, h3, h4⟩ := hC h hD
  obtain ⟨n, rfl⟩ := nat_of h1
  have q := (lq10_0 n (by unfold TOT_ at h3; omega) ht).2.1
  exact ⟨h4 2 2 (by rw [ht]; rfl), q.1, q.2⟩
theorem fX10_12 {D : Int → Prop} {sz h : Int} (hC : Cl_ D sz) (hD : D h) (ht : ty_ h = 10) : D (h + 3) ∧ ty_ (h + 3) = 20 ∧ ln_ (h + 3) = 34 := by
  obtain ⟨h1, h2, h3, h4⟩ := hC h hD
  obtain ⟨n, rfl⟩ := nat_of h1
  have q := (lq10_0 n (by unfold TOT_ at h3; omega) ht).2.2.1
  exact ⟨h4 12 3 (by rw [ht]; rfl), q.1, q.2⟩
theorem fX10_13 {D : Int → Prop} {sz h : Int} (hC : Cl_ D sz) (hD : D h) (ht : ty_ h = 10) : D (h + 4) ∧ ty_ (h + 4) = 20 ∧ ln_ (h + 4) = 1156 := by
  obtain ⟨h1, h2, h3, h4⟩ := hC h hD
  obtain ⟨n, rfl⟩ := nat_of h1
  have q := (lq10_0 n (by unfold TOT_ at h3; omega) ht).2.2.2.1
  exact ⟨h4 13 4 (by rw [ht]; rfl), q.1, q.2⟩
theorem fX10_14 {D : Int → Prop} {sz h : Int} (hC : Cl_ D sz) (hD : D h) (ht : ty_ h = 10) : D (h + 5) ∧ ty_ (h + 5) = 20 ∧ ln_ (h + 5) = 6 := by
  obtain ⟨h1, h2, h3, h4⟩ := hC h hD
  obtain ⟨n, rfl⟩ := nat_of h1
  have q := (lq10_0 n (by unfold TOT_ at h3; omega) ht).2.2.2.2.1
  exact ⟨h4 14 5 (by rw [ht]; rfl), q.1, q.2⟩
theorem fX10_15 {D : Int → Prop} {sz h : Int} (hC : Cl_ D sz) (hD : D h) (ht : ty_ h = 10) : D (h + 6) ∧ ty_ (h + 6) = 20 ∧ ln_ (h + 6) = 12 := by
  obtain ⟨h1, h2, h3, h4⟩ := hC h hD
  obtain ⟨n, rfl⟩ := nat_of h1
  have q := (lq10_0 n (by unfold TOT_ at h3; omega) ht).2.2.2.2.2
  exact ⟨h4 15 6 (by rw [ht]; rfl), q.1, q.2⟩
theorem lq11_0 : ∀ n : Nat, n < 873 → tyq_ n = 11 → (tyq_ (n + 1) = 21 ∧ lnq_ (n + 1) = 2000) ∧ (tyq_ (n + 2) = 3 ∧ lnq_ (n + 2) = 0) ∧ (tyq_ (n + 139) = 7 ∧ lnq_ (n + 139) = 0) ∧ (tyq_ (n + 141) = 0 ∧ lnq_ (n + 141) = 0) ∧ (tyq_ (n + 188) = 4 ∧ lnq_ (n + 188) = 0) ∧ (tyq_ (n + 799) = 6 ∧ lnq_ (n + 799) = 0) := by decide +kernel
theorem fX11_0 {D : Int → Prop} {sz h : Int} (hC : Cl_ D sz) (hD : D h) (ht : ty_ h = 11) : D (h + 1) ∧ ty_ (h + 1) = 21 ∧ ln_ (h + 1) = 2000 := by
  obtain ⟨h1, h2, h3, h4⟩ := hC h hD
  obtain ⟨n, rfl⟩ := nat_of h1
  have q := (lq11_0 n (by unfold TOT_ at h3; omega) ht).1
  exact ⟨h4 0 1 (by rw [ht]; rfl), q.1, q.2⟩
theorem fX11_3 {D : Int → Prop} {sz h : Int} (hC : Cl_ D sz) (hD : D h) (ht : ty_ h = 11) : D (h + 2) ∧ ty_ (h + 2) = 3 ∧ ln_ (h + 2) = 0 := by
  obtain ⟨h1, h2, h3, h4⟩ := hC h hD
  obtain ⟨n, rfl⟩ := nat_of h1
  have q := (lq11_0 n (by unfold TOT_ at h3; omega) ht).2.1
  exact ⟨h4 3 2 (by rw [ht]; rfl), q.1, q.2⟩
theorem fX11_6 {D : Int → Prop} {sz h : Int} (hC : Cl_ D sz) (hD : D h) (ht : ty_ h = 11) : D (h + 139) ∧ ty_ (h + 139) = 7 ∧ ln_ (h + 139) = 0 := by
  obtain ⟨h1, h2, h3, h4⟩ := hC h hD
  obtain ⟨n, rfl⟩ := nat_of h1
  have q := (lq11_0 n (by unfold TOT_ at h3; omega) ht).2.2.1
  exact ⟨h4 6 139 (by rw [ht]; rfl), q.1, q.2⟩
theorem fX11_7 {D : Int → Prop} {sz h : Int} (hC : Cl_ D sz) (hD : D h) (ht : ty_ h = 11) : D (h + 141) ∧ ty_ (h + 141) = 0 ∧ ln_ (h + 141) = 0 := by
  obtain ⟨h1, h2, h3, h4⟩ := hC h hD
  obtain ⟨n, rfl⟩ := nat_of h1
  have q := (lq11_0 n (by unfold TOT_ at h3; omega) ht).2.2.2.1
  exact ⟨h4 7 141 (by rw [ht]; rfl), q.1, q.2⟩
theorem fX11_8 {D : Int → Prop} {sz h : Int} (hC : Cl_ D sz) (hD : D h) (ht : ty_ h = 11) : D (h + 188) ∧ ty_ (h + 188) = 4 ∧ ln_ (h + 188) = 0 := by
  obtain ⟨h1, h2, h3, h4⟩ := hC h hD
  obtain ⟨n, rfl⟩ := nat_of h1
  have q := (lq11_0 n (by unfold TOT_ at h3; omega) ht).2.2.2.2.1
  exact ⟨h4 8 188 (by rw [ht]; rfl), q.1, q.2⟩
theorem fX11_9 {D : Int → Prop} {sz h : Int} (hC : Cl_ D sz) (hD : D h) (ht : ty_ h = 11) : D (h + 799) ∧ ty_ (h + 799) = 6 ∧ ln_ (h + 799) = 0 := by
  obtain ⟨h1, h2, h3, h4⟩ := hC h hD
  obtain ⟨n, rfl⟩ := nat_of h1
  have q := (lq11_0 n (by unfold TOT_ at h3; omega) ht).2.2.2.2.2
  exact ⟨h4 9 799 (by rw [ht]; rfl), q.1, q.2⟩
theorem lq11_1 : ∀ n : Nat, n < 873 → tyq_ n = 11 → (tyq_ (n + 806) = 6 ∧ lnq_ (n + 806) = 0) := by decide +kernel
theorem fX11_10 {D : Int → Prop} {sz h : Int} (hC : Cl_ D sz) (hD : D h) (ht : ty_ h = 11) : D (h + 806) ∧ ty_ (h + 806) = 6 ∧ ln_ (h + 806) = 0 := by
  obtain ⟨h1, h2, h3, h4⟩ := hC h hD
  obtain ⟨n, rfl⟩ := nat_of h1
  have q := (lq11_1 n (by unfold TOT_ at h3; omega) ht)
  exact ⟨h4 10 806 (by rw [ht]; rfl), q.1, q.2⟩
theorem lq12_0 : ∀ n : Nat, n < 873 → tyq_ n = 12 → (tyq_ (n + 1) = 21 ∧ lnq_ (n + 1) = 2000) ∧ (tyq_ (n + 2) = 21 ∧ lnq_ (n + 2) = 2000) ∧ (tyq_ (n + 3) = 20 ∧ lnq_ (n + 3) = 403) ∧ (tyq_ (n + 4) = 20 ∧ lnq_ (n + 4) = 403) ∧ (tyq_ (n + 5) = 20 ∧ lnq_ (n + 5) = 403) ∧ (tyq_ (n + 6) = 22 ∧ lnq_ (n + 6) = 403) := by decide +kernel
theorem fX12_1 {D : Int → Prop} {sz h : Int} (hC : Cl_ D sz) (hD : D h) (ht : ty_ h = 12) : D (h + 1) ∧ ty_ (h + 1) = 21 ∧ ln_ (h + 1) = 2000 := by
  obtain ⟨h1, h2, h3, h4⟩ := hC h hD
  obtain ⟨n, rfl⟩ := nat_of h1
  have q := (lq12_0 n (by unfold TOT_ at h3; omega) ht).1
  exact ⟨h4 1 1 (by rw [ht]; rfl), q.1, q.2⟩
theorem fX12_3 {D : Int → Prop} {sz h : Int} (hC : Cl_ D sz) (hD : D h) (ht : ty_ h = 12) : D (h + 2) ∧ ty_ (h + 2) = 21 ∧ ln_ (h + 2) = 2000 := by
  obtain ⟨h1, h2, h3, h4⟩ := hC h hD
  obtain ⟨n, rfl⟩ := nat_of h1
  have q := (lq12_0 n (by unfold TOT_ at h3; omega) ht).2.1
  exact ⟨h4 3 2 (by rw [ht]; rfl), q.1, q.2⟩
theorem fX12_5 {D : Int → Prop} {sz h : Int} (hC : Cl_ D sz) (hD : D h) (ht : ty_ h = 12) : D (h + 3) ∧ ty_ (h + 3) = 20 ∧ ln_ (h + 3) = 403 := by
  obtain ⟨h1, h2, h3, h4⟩ := hC h hD
  obtain ⟨n, rfl⟩ := nat_of h1
  have q := (lq12_0 n (by unfold TOT_ at h3; omega) ht).2.2.1
  exact ⟨h4 5 3 (by rw [ht]; rfl), q.1, q.2⟩
theorem fX12_6 {D : Int → Prop} {sz h : Int} (hC : Cl_ D sz) (hD : D h) (ht : ty_ h = 12) : D (h + 4) ∧ ty_ (h + 4) = 20 ∧ ln_ (h + 4) = 403 := by
  obtain ⟨h1, h2, h3, h4⟩ := hC h hD
  obtain ⟨n, rfl⟩ := nat_of h1
  have q := (lq12_0 n (by unfold TOT_ at h3; omega) ht).2.2.2.1
  exact ⟨h4 6 4 (by rw [ht]; rfl), q.1, q.2⟩
theorem fX12_7 {D : Int → Prop} {sz h : Int} (hC : Cl_ D sz) (hD : D h) (ht : ty_ h = 12) : D (h + 5) ∧ ty_ (h + 5) = 20 ∧ ln_ (h + 5) = 403 := by
  obtain ⟨h1, h2, h3, h4⟩ := hC h hD
  obtain ⟨n, rfl⟩ := nat_of h1
  have q := (lq12_0 n (by unfold TOT_ at h3; omega) ht).2.2.2.2.1
  exact ⟨h4 7 5 (by rw [ht]; rfl), q.1, q.2⟩
theorem fX12_8 {D : Int → Prop} {sz h : Int} (hC : Cl_ D sz) (hD : D h) (ht : ty_ h = 12) : D (h + 6) ∧ ty_ (h + 6) = 22 ∧ ln_ (h + 6) = 403 := by
  obtain ⟨h1, h2, h3, h4⟩ := hC h hD
  obtain ⟨n, rfl⟩ := nat_of h1
  have q := (lq12_0 n (by unfold TOT_ at h3; omega) ht).2.2.2.2.2
  exact ⟨h4 8 6 (by rw [ht]; rfl), q.1, q.2⟩
theorem lq12_1 : ∀ n : Nat, n < 873 → tyq_ n = 12 → (tyq_ (n + 7) = 22 ∧ lnq_ (n + 7) = 17) ∧ (tyq_ (n + 8) = 22 ∧ lnq_ (n + 8) = 8) ∧ (tyq_ (n + 9) = 20 ∧ lnq_ (n + 9) = 2) ∧ (tyq_ (n + 10) = 20 ∧ lnq_ (n + 10) = 8) ∧ (tyq_ (n + 11) = 20 ∧ lnq_ (n + 11) = 8) ∧ (tyq_ (n + 12) = 20 ∧ lnq_ (n + 12) = 16) := by decide +kernel
theorem fX12_9 {D : Int → Prop} {sz h : Int} (hC : Cl_ D sz) (hD : D h) (ht : ty_ h = 12) : D (h + 7) ∧ ty_ (h + 7) = 22 ∧ ln_ (h + 7) = 17 := by
  obtain ⟨h1, h2, h3, h4⟩ := hC h hD
  obtain ⟨n, rfl⟩ := nat_of h1
  have q := (lq12_1 n (by unfold TOT_ at h3; omega) ht).1
  exact ⟨h4 9 7 (by rw [ht]; rfl), q.1, q.2⟩
theorem fX12_21 {D : Int → Prop} {sz h : Int} (hC : Cl_ D sz) (hD : D h) (ht : ty_ h = 12) : D (h + 8) ∧ ty_ (h + 8) = 22 ∧ ln_ (h + 8) = 8 := by
  obtain ⟨h1, h2, h3, h4⟩ := hC h hD
  obtain ⟨n, rfl⟩ := nat_of h1
  have q := (lq12_1 n (by unfold TOT_ at h3; omega) ht).2.1
  exact ⟨h4 21 8 (by rw [ht]; rfl), q.1, q.2⟩
theorem fX12_22 {D : Int → Prop} {sz h : Int} (hC : Cl_ D sz) (hD : D h) (ht : ty_ h = 12) : D (h + 9) ∧ ty_ (h + 9) = 20 ∧ ln_ (h + 9) = 2 := by
  obtain ⟨h1, h2, h3, h4⟩ := hC h hD
  obtain ⟨n, rfl⟩ := nat_of h1
  have q := (lq12_1 n (by unfold TOT_ at h3; omega) ht).2.2.1
  exact ⟨h4 22 9 (by rw [ht]; rfl), q.1, q.2⟩
theorem fX12_23 {D : Int → Prop} {sz h : Int} (hC : Cl_ D sz) (hD : D h) (ht : ty_ h = 12) : D (h + 10) ∧ ty_ (h + 10) = 20 ∧ ln_ (h + 10) = 8 := by
  obtain ⟨h1, h2, h3, h4⟩ := hC h hD
  obtain ⟨n, rfl⟩ := nat_of h1
  have q := (lq12_1 n (by unfold TOT_ at h3; omega) ht).2.2.2.1
  exact ⟨h4 23 10 (by rw [ht]; rfl), q.1, q.2⟩
theorem fX12_24 {D : Int → Prop} {sz h : Int} (hC : Cl_ D sz) (hD : D h) (ht : ty_ h = 12) : D (h + 11) ∧ ty_ (h + 11) = 20 ∧ ln_ (h + 11) = 8 := by
  obtain ⟨h1, h2, h3, h4⟩ := hC h hD
  obtain ⟨n, rfl⟩ := nat_of h1
  have q := (lq12_1 n (by unfold TOT_ at h3; omega) ht).2.2.2.2.1
  exact ⟨h4 24 11 (by rw [ht]; rfl), q.1, q.2⟩
theorem fX12_25 {D : Int → Prop} {sz h : Int} (hC : Cl_ D sz) (hD : D h) (ht : ty_ h = 12) : D (h + 12) ∧ ty_ (h + 12) = 20 ∧ ln_ (h + 12) = 16 := by
  obtain ⟨h1, h2, h3, h4⟩ := hC h hD
  obtain ⟨n, rfl⟩ := nat_of h1
  have q := (lq12_1 n (by unfold TOT_ at h3; omega) ht).2.2.2.2.2
  exact ⟨h4 25 12 (by rw [ht]; rfl), q.1, q.2⟩
theorem lq12_2 : ∀ n : Nat, n < 873 → tyq_ n = 12 → (tyq_ (n + 13) = 20 ∧ lnq_ (n + 13) = 96) ∧ (tyq_ (n + 14) = 20 ∧ lnq_ (n + 14) = 96) ∧ (tyq_ (n + 15) = 20 ∧ lnq_ (n + 15) = 96) ∧ (tyq_ (n + 16) = 20 ∧ lnq_ (n + 16) = 96) ∧ (tyq_ (n + 17) = 20 ∧ lnq_ (n + 17) = 96) ∧ (tyq_ (n + 18) = 20 ∧ lnq_ (n + 18) = 16) := by decide +kernel
theorem fX12_26 {D : Int → Prop} {sz h : Int} (hC : Cl_ D sz) (hD : D h) (ht : ty_ h = 12) : D (h + 13) ∧ ty_ (h + 13) = 20 ∧ ln_ (h + 13) = 96 := by
  obtain ⟨h1, h2, h3, h4⟩ := hC h hD
  obtain ⟨n, rfl⟩ := nat_of h1
  have q := (lq12_2 n (by unfold TOT_ at h3; omega) ht).1
  exact ⟨h4 26 13 (by rw [ht]; rfl), q.1, q.2⟩
theorem fX12_27 {D : Int → Prop} {sz h : Int} (hC : Cl_ D sz) (hD : D h) (ht : ty_ h = 12) : D (h + 14) ∧ ty_ (h + 14) = 20 ∧ ln_ (h + 14) = 96 := by
  obtain ⟨h1, h2, h3, h4⟩ := hC h hD
  obtain ⟨n, rfl⟩ := nat_of h1
  have q := (lq12_2 n (by unfold TOT_ at h3; omega) ht).2.1
  exact ⟨h4 27 14 (by rw [ht]; rfl), q.1, q.2⟩
theorem fX12_28 {D : Int → Prop} {sz h : Int} (hC : Cl_ D sz) (hD : D h) (ht : ty_ h = 12) : D (h + 15) ∧ ty_ (h + 15) = 20 ∧ ln_ (h + 15) = 96 := by
  obtain ⟨h1, h2, h3, h4⟩ := hC h hD
  obtain ⟨n, rfl⟩ := nat_of h1
  have q := (lq12_2 n (by unfold TOT_ at h3; omega) ht).2.2.1
  exact ⟨h4 28 15 (by rw [ht]; rfl), q.1, q.2⟩
theorem fX12_29 {D : Int → Prop} {sz h : Int} (hC : Cl_ D sz) (hD : D h) (ht : ty_ h = 12) : D (h + 16) ∧ ty_ (h + 16) = 20 ∧ ln_ (h + 16) = 96 := by
  obtain ⟨h1, h2, h3, h4⟩ := hC h hD
  obtain ⟨n, rfl⟩ := nat_of h1
  have q := (lq12_2 n (by unfold TOT_ at h3; omega) ht).2.2.2.1
  exact ⟨h4 29 16 (by rw [ht]; rfl), q.1, q.2⟩
theorem fX12_30 {D : Int → Prop} {sz h : Int} (hC : Cl_ D sz) (hD : D h) (ht : ty_ h = 12) : D (h + 17) ∧ ty_ (h + 17) = 20 ∧ ln_ (h + 17) = 96 := by
  obtain ⟨h1, h2, h3, h4⟩ := hC h hD
  obtain ⟨n, rfl⟩ := nat_of h1
  have q := (lq12_2 n (by unfold TOT_ at h3; omega) ht).2.2.2.2.1
  exact ⟨h4 30 17 (by rw [ht]; rfl), q.1, q.2⟩
theorem fX12_31 {D : Int → Prop} {sz h : Int} (hC : Cl_ D sz) (hD : D h) (ht : ty_ h = 12) : D (h + 18) ∧ ty_ (h + 18) = 20 ∧ ln_ (h + 18) = 16 := by
  obtain ⟨h1, h2, h3, h4⟩ := hC h hD
  obtain ⟨n, rfl⟩ := nat_of h1
  have q := (lq12_2 n (by unfold TOT_ at h3; omega) ht).2.2.2.2.2
  exact ⟨h4 31 18 (by rw [ht]; rfl), q.1, q.2⟩
theorem lq12_3 : ∀ n : Nat, n < 873 → tyq_ n = 12 → (tyq_ (n + 19) = 20 ∧ lnq_ (n + 19) = 16) ∧ (tyq_ (n + 20) = 20 ∧ lnq_ (n + 20) = 16) ∧ (tyq_ (n + 21) = 20 ∧ lnq_ (n + 21) = 32) ∧ (tyq_ (n + 22) = 20 ∧ lnq_ (n + 22) = 32) ∧ (tyq_ (n + 23) = 20 ∧ lnq_ (n + 23) = 47) ∧ (tyq_ (n + 24) = 20 ∧ lnq_ (n + 24) = 47) := by decide +kernel
theorem fX12_32 {D : Int → Prop} {sz h : Int} (hC : Cl_ D sz) (hD : D h) (ht : ty_ h = 12) : D (h + 19) ∧ ty_ (h + 19) = 20 ∧ ln_ (h + 19) = 16 := by
  obtain ⟨h1, h2, h3, h4⟩ := hC h hD
  obtain ⟨n, rfl⟩ := nat_of h1
  have q := (lq12_3 n (by unfold TOT_ at h3; omega) ht).1
  exact ⟨h4 32 19 (by rw [ht]; rfl), q.1, q.2⟩
theorem fX12_33 {D : Int → Prop} {sz h : Int} (hC : Cl_ D sz) (hD : D h) (ht : ty_ h = 12) : D (h + 20) ∧ ty_ (h + 20) = 20 ∧ ln_ (h + 20) = 16 := by
  obtain ⟨h1, h2, h3, h4⟩ := hC h hD
  obtain ⟨n, rfl⟩ := nat_of h1
  have q := (lq12_3 n (by unfold TOT_ at h3; omega) ht).2.1
  exact ⟨h4 33 20 (by rw [ht]; rfl), q.1, q.2⟩
theorem fX12_34 {D : Int → Prop} {sz h : Int} (hC : Cl_ D sz) (hD : D h) (ht : ty_ h = 12) : D (h + 21) ∧ ty_ (h + 21) = 20 ∧ ln_ (h + 21) = 32 := by
  obtain ⟨h1, h2, h3, h4⟩ := hC h hD
  obtain ⟨n, rfl⟩ := nat_of h1
  have q := (lq12_3 n (by unfold TOT_ at h3; omega) ht).2.2.1
  exact ⟨h4 34 21 (by rw [ht]; rfl), q.1, q.2⟩
theorem fX12_35 {D : Int → Prop} {sz h : Int} (hC : Cl_ D sz) (hD : D h) (ht : ty_ h = 12) : D (h + 22) ∧ ty_ (h + 22) = 20 ∧ ln_ (h + 22) = 32 := by
  obtain ⟨h1, h2, h3, h4⟩ := hC h hD
  obtain ⟨n, rfl⟩ := nat_of h1
  have q := (lq12_3 n (by unfold TOT_ at h3; omega) ht).2.2.2.1
  exact ⟨h4 35 22 (by rw [ht]; rfl), q.1, q.2⟩
theorem fX12_36 {D : Int → Prop} {sz h : Int} (hC : Cl_ D sz) (hD : D h) (ht : ty_ h = 12) : D (h + 23) ∧ ty_ (h + 23) = 20 ∧ ln_ (h + 23) = 47 := by
  obtain ⟨h1, h2, h3, h4⟩ := hC h hD
  obtain ⟨n, rfl⟩ := nat_of h1
  have q := (lq12_3 n (by unfold TOT_ at h3; omega) ht).2.2.2.2.1
  exact ⟨h4 36 23 (by rw [ht]; rfl), q.1, q.2⟩
theorem fX12_37 {D : Int → Prop} {sz h : Int} (hC : Cl_ D sz) (hD : D h) (ht : ty_ h = 12) : D (h + 24) ∧ ty_ (h + 24) = 20 ∧ ln_ (h + 24) = 47 := by
  obtain ⟨h1, h2, h3, h4⟩ := hC h hD
  obtain ⟨n, rfl⟩ := nat_of h1
  have q := (lq12_3 n (by unfold TOT_ at h3; omega) ht).2.2.2.2.2
  exact ⟨h4 37 24 (by rw [ht]; rfl), q.1, q.2⟩
theorem lq12_4 : ∀ n : Nat, n < 873 → tyq_ n = 12 → (tyq_ (n + 25) = 20 ∧ lnq_ (n + 25) = 12) ∧ (tyq_ (n + 26) = 20 ∧ lnq_ (n + 26) = 8) ∧ (tyq_ (n + 27) = 20 ∧ lnq_ (n + 27) = 8) ∧ (tyq_ (n + 28) = 20 ∧ lnq_ (n + 28) = 16) ∧ (tyq_ (n + 29) = 20 ∧ lnq_ (n + 29) = 8) ∧ (tyq_ (n + 30) = 20 ∧ lnq_ (n + 30) = 8) := by decide +kernel
theorem fX12_38 {D : Int → Prop} {sz h : Int} (hC : Cl_ D sz) (hD : D h) (ht : ty_ h = 12) : D (h + 25) ∧ ty_ (h + 25) = 20 ∧ ln_ (h + 25) = 12 := by
  obtain ⟨h1, h2, h3, h4⟩ := hC h hD
  obtain ⟨n, rfl⟩ := nat_of h1
  have q := (lq12_4 n (by unfold TOT_ at h3; omega) ht).1
  exact ⟨h4 38 25 (by rw [ht]; rfl), q.1, q.2⟩
theorem fX12_39 {D : Int → Prop} {sz h : Int} (hC : Cl_ D sz) (hD : D h) (ht : ty_ h = 12) : D (h + 26) ∧ ty_ (h + 26) = 20 ∧ ln_ (h + 26) = 8 := by
  obtain ⟨h1, h2, h3, h4⟩ := hC h hD
  obtain ⟨n, rfl⟩ := nat_of h1
  have q := (lq12_4 n (by unfold TOT_ at h3; omega) ht).2.1
  exact ⟨h4 39 26 (by rw [ht]; rfl), q.1, q.2⟩
theorem fX12_43 {D : Int → Prop} {sz h : Int} (hC : Cl_ D sz) (hD : D h) (ht : ty_ h = 12) : D (h + 27) ∧ ty_ (h + 27) = 20 ∧ ln_ (h + 27) = 8 := by
  obtain ⟨h1, h2, h3, h4⟩ := hC h hD
  obtain ⟨n, rfl⟩ := nat_of h1
  have q := (lq12_4 n (by unfold TOT_ at h3; omega) ht).2.2.1
  exact ⟨h4 43 27 (by rw [ht]; rfl), q.1, q.2⟩
theorem fX12_44 {D : Int → Prop} {sz h : Int} (hC : Cl_ D sz) (hD : D h) (ht : ty_ h = 12) : D (h + 28) ∧ ty_ (h + 28) = 20 ∧ ln_ (h + 28) = 16 := by
  obtain ⟨h1, h2, h3, h4⟩ := hC h hD
  obtain ⟨n, rfl⟩ := nat_of h1
  have q := (lq12_4 n (by unfold TOT_ at h3; omega) ht).2.2.2.1
  exact ⟨h4 44 28 (by rw [ht]; rfl), q.1, q.2⟩
theorem fX12_47 {D : Int → Prop} {sz h : Int} (hC : Cl_ D sz) (hD : D h) (ht : ty_ h = 12) : D (h + 29) ∧ ty_ (h + 29) = 20 ∧ ln_ (h + 29) = 8 := by
  obtain ⟨h1, h2, h3, h4⟩ := hC h hD
  obtain ⟨n, rfl⟩ := nat_of h1
  have q := (lq12_4 n (by unfold TOT_ at h3; omega) ht).2.2.2.2.1
  exact ⟨h4 47 29 (by rw [ht]; rfl), q.1, q.2⟩
theorem fX12_48 {D : Int → Prop} {sz h : Int} (hC : Cl_ D sz) (hD : D h) (ht : ty_ h = 12) : D (h + 30) ∧ ty_ (h + 30) = 20 ∧ ln_ (h + 30) = 8 := by
  obtain ⟨h1, h2, h3, h4⟩ := hC h hD
  obtain ⟨n, rfl⟩ := nat_of h1
  have q := (lq12_4 n (by unfold TOT_ at h3; omega) ht).2.2.2.2.2
  exact ⟨h4 48 30 (by rw [ht]; rfl), q.1, q.2⟩
theorem lq12_5 : ∀ n : Nat, n < 873 → tyq_ n = 12 → (tyq_ (n + 31) = 20 ∧ lnq_ (n + 31) = 8) ∧ (tyq_ (n + 32) = 20 ∧ lnq_ (n + 32) = 32) ∧ (tyq_ (n + 33) = 20 ∧ lnq_ (n + 33) = 8) ∧ (tyq_ (n + 34) = 20 ∧ lnq_ (n + 34) = 8) ∧ (tyq_ (n + 35) = 20 ∧ lnq_ (n + 35) = 272) ∧ (tyq_ (n + 36) = 20 ∧ lnq_ (n + 36) = 272) := by decide +kernel
theorem fX12_49 {D : Int → Prop} {sz h : Int} (hC : Cl_ D sz) (hD : D h) (ht : ty_ h = 12) : D (h + 31) ∧ ty_ (h + 31) = 20 ∧ ln_ (h + 31) = 8 := by
  obtain ⟨h1, h2, h3, h4⟩ := hC h hD
  obtain ⟨n, rfl⟩ := nat_of h1
  have q := (lq12_5 n (by unfold TOT_ at h3; omega) ht).1
  exact ⟨h4 49 31 (by rw [ht]; rfl), q.1, q.2⟩
theorem fX12_50 {D : Int → Prop} {sz h : Int} (hC : Cl_ D sz) (hD : D h) (ht : ty_ h = 12) : D (h + 32) ∧ ty_ (h + 32) = 20 ∧ ln_ (h + 32) = 32 := by
  obtain ⟨h1, h2, h3, h4⟩ := hC h hD
  obtain ⟨n, rfl⟩ := nat_of h1
  have q := (lq12_5 n (by unfold TOT_ at h3; omega) ht).2.1
  exact ⟨h4 50 32 (by rw [ht]; rfl), q.1, q.2⟩
theorem fX12_51 {D : Int → Prop} {sz h : Int} (hC : Cl_ D sz) (hD : D h) (ht : ty_ h = 12) : D (h + 33) ∧ ty_ (h + 33) = 20 ∧ ln_ (h + 33) = 8 := by
  obtain ⟨h1, h2, h3, h4⟩ := hC h hD
  obtain ⟨n, rfl⟩ := nat_of h1
  have q := (lq12_5 n (by unfold TOT_ at h3; omega) ht).2.2.1
  exact ⟨h4 51 33 (by rw [ht]; rfl), q.1, q.2⟩
theorem fX12_53 {D : Int → Prop} {sz h : Int} (hC : Cl_ D sz) (hD : D h) (ht : ty_ h = 12) : D (h + 34) ∧ ty_ (h + 34) = 20 ∧ ln_ (h + 34) = 8 := by
  obtain ⟨h1, h2, h3, h4⟩ := hC h hD
  obtain ⟨n, rfl⟩ := nat_of h1
  have q := (lq12_5 n (by unfold TOT_ at h3; omega) ht).2.2.2.1
  exact ⟨h4 53 34 (by rw [ht]; rfl), q.1, q.2⟩
theorem fX12_54 {D : Int → Prop} {sz h : Int} (hC : Cl_ D sz) (hD : D h) (ht : ty_ h = 12) : D (h + 35) ∧ ty_ (h + 35) = 20 ∧ ln_ (h + 35) = 272 := by
  obtain ⟨h1, h2, h3, h4⟩ := hC h hD
  obtain ⟨n, rfl⟩ := nat_of h1
  have q := (lq12_5 n (by unfold TOT_ at h3; omega) ht).2.2.2.2.1
  exact ⟨h4 54 35 (by rw [ht]; rfl), q.1, q.2⟩
theorem fX12_55 {D : Int → Prop} {sz h : Int} (hC : Cl_ D sz) (hD : D h) (ht : ty_ h = 12) : D (h + 36) ∧ ty_ (h + 36) = 20 ∧ ln_ (h + 36) = 272 := by
  obtain ⟨h1, h2, h3, h4⟩ := hC h hD
  obtain ⟨n, rfl⟩ := nat_of h1
  have q := (lq12_5 n (by unfold TOT_ at h3; omega) ht).2.2.2.2.2
  exact ⟨h4 55 36 (by rw [ht]; rfl), q.1, q.2⟩
theorem lq12_6 : ∀ n : Nat, n < 873 → tyq_ n = 12 → (tyq_ (n + 37) = 20 ∧ lnq_ (n + 37) = 272) ∧ (tyq_ (n + 38) = 20 ∧ lnq_ (n + 38) = 272) ∧ (tyq_ (n + 39) = 20 ∧ lnq_ (n + 39) = 272) ∧ (tyq_ (n + 40) = 20 ∧ lnq_ (n + 40) = 272) ∧ (tyq_ (n + 41) = 20 ∧ lnq_ (n + 41) = 272) ∧ (tyq_ (n + 42) = 20 ∧ lnq_ (n + 42) = 272) := by decide +kernel
theorem fX12_56 {D : Int → Prop} {sz h : Int} (hC : Cl_ D sz) (hD : D h) (ht : ty_ h = 12) : D (h + 37) ∧ ty_ (h + 37) = 20 ∧ ln_ (h + 37) = 272 := by
  obtain ⟨h1, h2, h3, h4⟩ := hC h hD
  obtain ⟨n, rfl⟩ := nat_of h1
  have q := (lq12_6 n (by unfold TOT_ at h3; omega) ht).1
  exact ⟨h4 56 37 (by rw [ht]; rfl), q.1, q.2⟩
theorem fX12_57 {D : Int → Prop} {sz h : Int} (hC : Cl_ D sz) (hD : D h) (ht : ty_ h = 12) : D (h + 38) ∧ ty_ (h + 38) = 20 ∧ ln_ (h + 38) = 272 := by
  obtain ⟨h1, h2, h3, h4⟩ := hC h hD
  obtain ⟨n, rfl⟩ := nat_of h1
  have q := (lq12_6 n (by unfold TOT_ at h3; omega) ht).2.1
  exact ⟨h4 57 38 (by rw [ht]; rfl), q.1, q.2⟩
theorem fX12_58 {D : Int → Prop} {sz h : Int} (hC : Cl_ D sz) (hD : D h) (ht : ty_ h = 12) : D (h + 39) ∧ ty_ (h + 39) = 20 ∧ ln_ (h + 39) = 272 := by
  obtain ⟨h1, h2, h3, h4⟩ := hC h hD
  obtain ⟨n, rfl⟩ := nat_of h1
  have q := (lq12_6 n (by unfold TOT_ at h3; omega) ht).2.2.1
  exact ⟨h4 58 39 (by rw [ht]; rfl), q.1, q.2⟩
theorem fX12_59 {D : Int → Prop} {sz h : Int} (hC : Cl_ D sz) (hD : D h) (ht : ty_ h = 12) : D (h + 40) ∧ ty_ (h + 40) = 20 ∧ ln_ (h + 40) = 272 := by
  obtain ⟨h1, h2, h3, h4⟩ := hC h hD
  obtain ⟨n, rfl⟩ := nat_of h1
  have q := (lq12_6 n (by unfold TOT_ at h3; omega) ht).2.2.2.1
  exact ⟨h4 59 40 (by rw [ht]; rfl), q.1, q.2⟩
theorem fX12_60 {D : Int → Prop} {sz h : Int} (hC : Cl_ D sz) (hD : D h) (ht : ty_ h = 12) : D (h + 41) ∧ ty_ (h + 41) = 20 ∧ ln_ (h + 41) = 272 := by
  obtain ⟨h1, h2, h3, h4⟩ := hC h hD
  obtain ⟨n, rfl⟩ := nat_of h1
  have q := (lq12_6 n (by unfold TOT_ at h3; omega) ht).2.2.2.2.1
  exact ⟨h4 60 41 (by rw [ht]; rfl), q.1, q.2⟩
theorem fX12_61 {D : Int → Prop} {sz h : Int} (hC : Cl_ D sz) (hD : D h) (ht : ty_ h = 12) : D (h + 42) ∧ ty_ (h + 42) = 20 ∧ ln_ (h + 42) = 272 := by
  obtain ⟨h1, h2, h3, h4⟩ := hC h hD
  obtain ⟨n, rfl⟩ := nat_of h1
  have q := (lq12_6 n (by unfold TOT_ at h3; omega) ht).2.2.2.2.2
  exact ⟨h4 61 42 (by rw [ht]; rfl), q.1, q.2⟩
theorem lq12_7 : ∀ n : Nat, n < 873 → tyq_ n = 12 → (tyq_ (n + 43) = 20 ∧ lnq_ (n + 43) = 272) ∧ (tyq_ (n + 44) = 20 ∧ lnq_ (n + 44) = 272) ∧ (tyq_ (n + 45) = 20 ∧ lnq_ (n + 45) = 272) ∧ (tyq_ (n + 46) = 20 ∧ lnq_ (n + 46) = 8) ∧ (tyq_ (n + 47) = 20 ∧ lnq_ (n + 47) = 6) ∧ (tyq_ (n + 48) = 20 ∧ lnq_ (n + 48) = 1156) := by decide +kernel
theorem fX12_62 {D : Int → Prop} {sz h : Int} (hC : Cl_ D sz) (hD : D h) (ht : ty_ h = 12) : D (h + 43) ∧ ty_ (h + 43) = 20 ∧ ln_ (h + 43) = 272 := by
  obtain ⟨h1, h2, h3, h4⟩ := hC h hD
  obtain ⟨n, rfl⟩ := nat_of h1
  have q := (lq12_7 n (by unfold TOT_ at h3; omega) ht).1
  exact ⟨h4 62 43 (by rw [ht]; rfl), q.1, q.2⟩
theorem fX12_63 {D : Int → Prop} {sz h : Int} (hC : Cl_ D sz) (hD : D h) (ht : ty_ h = 12) : D (h + 44) ∧ ty_ (h + 44) = 20 ∧ ln_ (h + 44) = 272 := by
  obtain ⟨h1, h2, h3, h4⟩ := hC h hD
  obtain ⟨n, rfl⟩ := nat_of h1
  have q := (lq12_7 n (by unfold TOT_ at h3; omega) ht).2.1
  exact ⟨h4 63 44 (by rw [ht]; rfl), q.1, q.2⟩
theorem fX12_64 {D : Int → Prop} {sz h : Int} (hC : Cl_ D sz) (hD : D h) (ht : ty_ h = 12) : D (h + 45) ∧ ty_ (h + 45) = 20 ∧ ln_ (h + 45) = 272 := by
  obtain ⟨h1, h2, h3, h4⟩ := hC h hD
  obtain ⟨n, rfl⟩ := nat_of h1
  have q := (lq12_7 n (by unfold TOT_ at h3; omega) ht).2.2.1
  exact ⟨h4 64 45 (by rw [ht]; rfl), q.1, q.2⟩
theorem fX12_65 {D : Int → Prop} {sz h : Int} (hC : Cl_ D sz) (hD : D h) (ht : ty_ h = 12) : D (h + 46) ∧ ty_ (h + 46) = 20 ∧ ln_ (h + 46) = 8 := by
  obtain ⟨h1, h2, h3, h4⟩ := hC h hD
  obtain ⟨n, rfl⟩ := nat_of h1
  have q := (lq12_7 n (by unfold TOT_ at h3; omega) ht).2.2.2.1
  exact ⟨h4 65 46 (by rw [ht]; rfl), q.1, q.2⟩
theorem fX12_66 {D : Int → Prop} {sz h : Int} (hC : Cl_ D sz) (hD : D h) (ht : ty_ h = 12) : D (h + 47) ∧ ty_ (h + 47) = 20 ∧ ln_ (h + 47) = 6 := by
  obtain ⟨h1, h2, h3, h4⟩ := hC h hD
  obtain ⟨n, rfl⟩ := nat_of h1
  have q := (lq12_7 n (by unfold TOT_ at h3; omega) ht).2.2.2.2.1
  exact ⟨h4 66 47 (by rw [ht]; rfl), q.1, q.2⟩
theorem fX12_67 {D : Int → Prop} {sz h : Int} (hC : Cl_ D sz) (hD : D h) (ht : ty_ h = 12) : D (h + 48) ∧ ty_ (h + 48) = 20 ∧ ln_ (h + 48) = 1156 := by
  obtain ⟨h1, h2, h3, h4⟩ := hC h hD
  obtain ⟨n, rfl⟩ := nat_of h1
  have q := (lq12_7 n (by unfold TOT_ at h3; omega) ht).2.2.2.2.2
  exact ⟨h4 67 48 (by rw [ht]; rfl), q.1, q.2⟩
theorem lq12_8 : ∀ n : Nat, n < 873 → tyq_ n = 12 → (tyq_ (n + 49) = 20 ∧ lnq_ (n + 49) = 4) ∧ (tyq_ (n + 50) = 20 ∧ lnq_ (n + 50) = 34) ∧ (tyq_ (n + 51) = 20 ∧ lnq_ (n + 51) = 34) ∧ (tyq_ (n + 52) = 23 ∧ lnq_ (n + 52) = 34) ∧ (tyq_ (n + 53) = 23 ∧ lnq_ (n + 53) = 34) ∧ (tyq_ (n + 54) = 20 ∧ lnq_ (n + 54) = 34) := by decide +kernel
theorem fX12_68 {D : Int → Prop} {sz h : Int} (hC : Cl_ D sz) (hD : D h) (ht : ty_ h = 12) : D (h + 49) ∧ ty_ (h + 49) = 20 ∧ ln_ (h + 49) = 4 := by
  obtain ⟨h1, h2, h3, h4⟩ := hC h hD
  obtain ⟨n, rfl⟩ := nat_of h1
  have q := (lq12_8 n (by unfold TOT_ at h3; omega) ht).1
  exact ⟨h4 68 49 (by rw [ht]; rfl), q.1, q.2⟩
theorem fX12_70 {D : Int → Prop} {sz h : Int} (hC : Cl_ D sz) (hD : D h) (ht : ty_ h = 12) : D (h + 50) ∧ ty_ (h + 50) = 20 ∧ ln_ (h + 50) = 34 := by
  obtain ⟨h1, h2, h3, h4⟩ := hC h hD
  obtain ⟨n, rfl⟩ := nat_of h1
  have q := (lq12_8 n (by unfold TOT_ at h3; omega) ht).2.1
  exact ⟨h4 70 50 (by rw [ht]; rfl), q.1, q.2⟩
theorem fX12_71 {D : Int → Prop} {sz h : Int} (hC : Cl_ D sz) (hD : D h) (ht : ty_ h = 12) : D (h + 51) ∧ ty_ (h + 51) = 20 ∧ ln_ (h + 51) = 34 := by
  obtain ⟨h1, h2, h3, h4⟩ := hC h hD
  obtain ⟨n, rfl⟩ := nat_of h1
  have q := (lq12_8 n (by unfold TOT_ at h3; omega) ht).2.2.1
  exact ⟨h4 71 51 (by rw [ht]; rfl), q.1, q.2⟩
theorem fX12_72 {D : Int → Prop} {sz h : Int} (hC : Cl_ D sz) (hD : D h) (ht : ty_ h = 12) : D (h + 52) ∧ ty_ (h + 52) = 23 ∧ ln_ (h + 52) = 34 := by
  obtain ⟨h1, h2, h3, h4⟩ := hC h hD
  obtain ⟨n, rfl⟩ := nat_of h1
  have q := (lq12_8 n (by unfold TOT_ at h3; omega) ht).2.2.2.1
  exact ⟨h4 72 52 (by rw [ht]; rfl), q.1, q.2⟩
theorem fX12_73 {D : Int → Prop} {sz h : Int} (hC : Cl_ D sz) (hD : D h) (ht : ty_ h = 12) : D (h + 53) ∧ ty_ (h + 53) = 23 ∧ ln_ (h + 53) = 34 := by
  obtain ⟨h1, h2, h3, h4⟩ := hC h hD
  obtain ⟨n, rfl⟩ := nat_of h1
  have q := (lq12_8 n (by unfold TOT_ at h3; omega) ht).2.2.2.2.1
  exact ⟨h4 73 53 (by rw [ht]; rfl), q.1, q.2⟩
theorem fX12_74 {D : Int → Prop} {sz h : Int} (hC : Cl_ D sz) (hD : D h) (ht : ty_ h = 12) : D (h + 54) ∧ ty_ (h + 54) = 20 ∧ ln_ (h + 54) = 34 := by
  obtain ⟨h1, h2, h3, h4⟩ := hC h hD
  obtain ⟨n, rfl⟩ := nat_of h1
  have q := (lq12_8 n (by unfold TOT_ at h3; omega) ht).2.2.2.2.2
  exact ⟨h4 74 54 (by rw [ht]; rfl), q.1, q.2⟩
theorem lq12_9 : ∀ n : Nat, n < 873 → tyq_ n = 12 → (tyq_ (n + 55) = 20 ∧ lnq_ (n + 55) = 1880) ∧ (tyq_ (n + 56) = 20 ∧ lnq_ (n + 56) = 14) ∧ (tyq_ (n + 57) = 23 ∧ lnq_ (n + 57) = 3) ∧ (tyq_ (n + 58) = 20 ∧ lnq_ (n + 58) = 141) := by decide +kernel
theorem fX12_78 {D : Int → Prop} {sz h : Int} (hC : Cl_ D sz) (hD : D h) (ht : ty_ h = 12) : D (h + 55) ∧ ty_ (h + 55) = 20 ∧ ln_ (h + 55) = 1880 := by
  obtain ⟨h1, h2, h3, h4⟩ := hC h hD
  obtain ⟨n, rfl⟩ := nat_of h1
  have q := (lq12_9 n (by unfold TOT_ at h3; omega) ht).1
  exact ⟨h4 78 55 (by rw [ht]; rfl), q.1, q.2⟩
theorem fX12_79 {D : Int → Prop} {sz h : Int} (hC : Cl_ D sz) (hD : D h) (ht : ty_ h = 12) : D (h + 56) ∧ ty_ (h + 56) = 20 ∧ ln_ (h + 56) = 14 := by
  obtain ⟨h1, h2, h3, h4⟩ := hC h hD
  obtain ⟨n, rfl⟩ := nat_of h1
  have q := (lq12_9 n (by unfold TOT_ at h3; omega) ht).2.1
  exact ⟨h4 79 56 (by rw [ht]; rfl), q.1, q.2⟩
theorem fX12_80 {D : Int → Prop} {sz h : Int} (hC : Cl_ D sz) (hD : D h) (ht : ty_ h = 12) : D (h + 57) ∧ ty_ (h + 57) = 23 ∧ ln_ (h + 57) = 3 := by
  obtain ⟨h1, h2, h3, h4⟩ := hC h hD
  obtain ⟨n, rfl⟩ := nat_of h1
  have q := (lq12_9 n (by unfold TOT_ at h3; omega) ht).2.2.1
  exact ⟨h4 80 57 (by rw [ht]; rfl), q.1, q.2⟩
theorem fX12_81 {D : Int → Prop} {sz h : Int} (hC : Cl_ D sz) (hD : D h) (ht : ty_ h = 12) : D (h + 58) ∧ ty_ (h + 58) = 20 ∧ ln_ (h + 58) = 141 := by
  obtain ⟨h1, h2, h3, h4⟩ := hC h hD
  obtain ⟨n, rfl⟩ := nat_of h1
  have q := (lq12_9 n (by unfold TOT_ at h3; omega) ht).2.2.2
  exact ⟨h4 81 58 (by rw [ht]; rfl), q.1, q.2⟩
theorem lqe_lines : ∀ n : Nat, n < 873 → tyq_ n = 25 ∧ lnq_ n = 48 → ∀ k : Nat, k < 48 → tyq_ (n + (6 + 1 * k)) = 8 ∧ lnq_ (n + (6 + 1 * k)) = 0 := by decide +kernel
theorem fE_lines {D : Int → Prop} {sz h i : Int} (hC : Cl_ D sz) (hD : D h) (ht : ty_ h = 25) (hl : ln_ h = 48) (hi : 0 ≤ i ∧ i < 48) : D (h + (6 + 1 * i)) ∧ ty_ (h + (6 + 1 * i)) = 8 ∧ ln_ (h + (6 + 1 * i)) = 0 := by
  obtain ⟨h1, h2, h3, h4⟩ := hC h hD
  obtain ⟨n, rfl⟩ := nat_of h1
  obtain ⟨k, rfl⟩ : ∃ k : Nat, i = (k : Int) := ⟨i.toNat, by omega⟩
  have hk : k < 48 := by omega
  have q := lqe_lines n (by unfold TOT_ at h3; omega) ⟨ht, hl⟩ k hk
  refine ⟨h4 k _ ?_, q.1, q.2⟩
  rw [ht, hl]
  have hk2 : ¬ 48 ≤ k := by omega
  simp [of_, ofA_, hk2]
theorem lqe_ends : ∀ n : Nat, n < 873 → tyq_ n = 25 ∧ lnq_ n = 8 → ∀ k : Nat, k < 8 → tyq_ (n + (53 + 1 * k)) = 8 ∧ lnq_ (n + (53 + 1 * k)) = 0 := by decide +kernel
theorem fE_ends {D : Int → Prop} {sz h i : Int} (hC : Cl_ D sz) (hD : D h) (ht : ty_ h = 25) (hl : ln_ h = 8) (hi : 0 ≤ i ∧ i < 8) : D (h + (53 + 1 * i)) ∧ ty_ (h + (53 + 1 * i)) = 8 ∧ ln_ (h + (53 + 1 * i)) = 0 := by
  obtain ⟨h1, h2, h3, h4⟩ := hC h hD
  obtain ⟨n, rfl⟩ := nat_of h1
  obtain ⟨k, rfl⟩ : ∃ k : Nat, i = (k : Int) := ⟨i.toNat, by omega⟩
  have hk : k < 8 := by omega
  have q := lqe_ends n (by unfold TOT_ at h3; omega) ⟨ht, hl⟩ k hk
  refine ⟨h4 k _ ?_, q.1, q.2⟩
  rw [ht, hl]
  have hk2 : ¬ 8 ≤ k := by omega
  simp [of_, ofA_, hk2]
theorem lqe_items : ∀ n : Nat, n < 873 → tyq_ n = 26 ∧ lnq_ n = 34 → ∀ k : Nat, k < 34 → tyq_ (n + (5 + 2 * k)) = 1 ∧ lnq_ (n + (5 + 2 * k)) = 0 := by decide +kernel
theorem fE_items {D : Int → Prop} {sz h i : Int} (hC : Cl_ D sz) (hD : D h) (ht : ty_ h = 26) (hl : ln_ h = 34) (hi : 0 ≤ i ∧ i < 34) : D (h + (5 + 2 * i)) ∧ ty_ (h + (5 + 2 * i)) = 1 ∧ ln_ (h + (5 + 2 * i)) = 0 := by
  obtain ⟨h1, h2, h3, h4⟩ := hC h hD
  obtain ⟨n, rfl⟩ := nat_of h1
  obtain ⟨k, rfl⟩ : ∃ k : Nat, i = (k : Int) := ⟨i.toNat, by omega⟩
  have hk : k < 34 := by omega
  have q := lqe_items n (by unfold TOT_ at h3; omega) ⟨ht, hl⟩ k hk
  refine ⟨h4 k _ ?_, q.1, q.2⟩
  rw [ht, hl]
  have hk2 : ¬ 34 ≤ k := by omega
  simp [of_, ofA_, hk2]
theorem lqe_traces : ∀ n : Nat, n < 873 → tyq_ n = 27 ∧ lnq_ n = 8 → ∀ k : Nat, k < 8 → tyq_ (n + (10 + 75 * k)) = 10 ∧ lnq_ (n + (10 + 75 * k)) = 0 := by decide +kernel
theorem fE_traces {D : Int → Prop} {sz h i : Int} (hC : Cl_ D sz) (hD : D h) (ht : ty_ h = 27) (hl : ln_ h = 8) (hi : 0 ≤ i ∧ i < 8) : D (h + (10 + 75 * i)) ∧ ty_ (h + (10 + 75 * i)) = 10 ∧ ln_ (h + (10 + 75 * i)) = 0 := by
  obtain ⟨h1, h2, h3, h4⟩ := hC h hD
  obtain ⟨n, rfl⟩ := nat_of h1
  obtain ⟨k, rfl⟩ : ∃ k : Nat, i = (k : Int) := ⟨i.toNat, by omega⟩
  have hk : k < 8 := by omega
  have q := lqe_traces n (by unfold TOT_ at h3; omega) ⟨ht, hl⟩ k hk
  refine ⟨h4 k _ ?_, q.1, q.2⟩
  rw [ht, hl]
  have hk2 : ¬ 8 ≤ k := by omega
  simp [of_, ofA_, hk2]
theorem lqe_ring : ∀ n : Nat, n < 873 → tyq_ n = 24 ∧ lnq_ n = 40 → ∀ k : Nat, k < 40 → tyq_ (n + (1 + 1 * k)) = 20 ∧ lnq_ (n + (1 + 1 * k)) = 47 := by decide +kernel
theorem fE_ring {D : Int → Prop} {sz h i : Int} (hC : Cl_ D sz) (hD : D h) (ht : ty_ h = 24) (hl : ln_ h = 40) (hi : 0 ≤ i ∧ i < 40) : D (h + (1 + 1 * i)) ∧ ty_ (h + (1 + 1 * i)) = 20 ∧ ln_ (h + (1 + 1 * i)) = 47 := by
  obtain ⟨h1, h2, h3, h4⟩ := hC h hD
  obtain ⟨n, rfl⟩ := nat_of h1
  obtain ⟨k, rfl⟩ : ∃ k : Nat, i = (k : Int) := ⟨i.toNat, by omega⟩
  have hk : k < 40 := by omega
  have q := lqe_ring n (by unfold TOT_ at h3; omega) ⟨ht, hl⟩ k hk
  refine ⟨h4 k _ ?_, q.1, q.2⟩
  rw [ht, hl]
  have hk2 : ¬ 40 ≤ k := by omega
  simp [of_, ofA_, hk2]
theorem lqe_slots : ∀ n : Nat, n < 873 → tyq_ n = 24 ∧ lnq_ n = 3 → ∀ k : Nat, k < 3 → tyq_ (n + (1 + 1 * k)) = 20 ∧ lnq_ (n + (1 + 1 * k)) = 47 := by decide +kernel
theorem fE_slots {D : Int → Prop} {sz h i : Int} (hC : Cl_ D sz) (hD : D h) (ht : ty_ h = 24) (hl : ln_ h = 3) (hi : 0 ≤ i ∧ i < 3) : D (h + (1 + 1 * i)) ∧ ty_ (h + (1 + 1 * i)) = 20 ∧ ln_ (h + (1 + 1 * i)) = 47 := by
  obtain ⟨h1, h2, h3, h4⟩ := hC h hD
  obtain ⟨n, rfl⟩ := nat_of h1
  obtain ⟨k, rfl⟩ : ∃ k : Nat, i = (k : Int) := ⟨i.toNat, by omega⟩
  have hk : k < 3 := by omega
  have q := lqe_slots n (by unfold TOT_ at h3; omega) ⟨ht, hl⟩ k hk
  refine ⟨h4 k _ ?_, q.1, q.2⟩
  rw [ht, hl]
  have hk2 : ¬ 3 ≤ k := by omega
  simp [of_, ofA_, hk2]
