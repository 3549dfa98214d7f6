def rawbits (b : UInt64) : Int64 := b.toInt64
